/-! Public methods, both sides: image, back. -/
section Meth10
variable {S : St} {M N : Mem} {W : Wd}
theorem copyX {o q : Nat} (hd : o + 5 < q ∨ q + 5 < o) (hW : PgOk W) (h : Tw W q M) : ∃ M', fX7_copyFrom o q M = some M' ∧ Tw W o M' ∧ (∀ c, ¬ (o ≤ c ∧ c ≤ o + 5) → M'.1 c = M.1 c) ∧ M'.2 = M.2 := by
  unfold fX7_copyFrom
  rw [show cpok (0 : Int32) (0 : Int32) (nI 6) 6 6 = true from rfl, show cpok (0 : Int32) (0 : Int32) (nI 40) 40 40 = true from rfl, show cpok (0 : Int32) (0 : Int32) (nI 120) 120 120 = true from rfl, ck_t, ck_t, ck_t, ck_t, ck_t, show tn (0 : Int32) = 0 from rfl, show tn (nI 6) = 6 from rfl, show tn (nI 40) = 40 from rfl, show tn (nI 120) = 120 from rfl]
  generalize hA : pC (pC (pC (pC (pC M (q + 1) (o + 1) 0 0 6) (q + 2) (o + 2) 0 0 6) (q + 3) (o + 3) 0 0 40) (q + 4) (o + 4) 0 0 120) (q + 5) (o + 5) 0 0 40 = A
  have hne : ∀ (X : Mem) (k : Nat) (v : Int32), (pI X o k v).1 q = X.1 q := fun X k v => (pI_o q (by omega)).1
  simp only [hne]
  have a0 : ∀ c, ¬ (o + 1 ≤ c ∧ c ≤ o + 5) → A.1 c = M.1 c := by
    intro c hc
    funext j
    rw [← hA, pC_1, if_neg (by omega), pC_1, if_neg (by omega), pC_1, if_neg (by omega), pC_1, if_neg (by omega), pC_1, if_neg (by omega)]
  have a1 : ∀ k, k < 6 → A.1 (o + 1) k = M.1 (q + 1) k := by
    intro k hk
    rw [← hA, pC_1, if_neg (by omega), pC_1, if_neg (by omega), pC_1, if_neg (by omega), pC_1, if_neg (by omega), pC_1, if_pos rfl, if_pos (by omega), show 0 + (k - 0) = k by omega]
  have a2 : ∀ k, k < 6 → A.1 (o + 2) k = M.1 (q + 2) k := by
    intro k hk
    rw [← hA, pC_1, if_neg (by omega), pC_1, if_neg (by omega), pC_1, if_neg (by omega), pC_1, if_pos rfl, if_pos (by omega), show 0 + (k - 0) = k by omega, pC_1, if_neg (by omega)]
  have a3 : ∀ k, k < 40 → A.1 (o + 3) k = M.1 (q + 3) k := by
    intro k hk
    rw [← hA, pC_1, if_neg (by omega), pC_1, if_neg (by omega), pC_1, if_pos rfl, if_pos (by omega), show 0 + (k - 0) = k by omega, pC_1, if_neg (by omega), pC_1, if_neg (by omega)]
  have a4 : ∀ k, k < 120 → A.1 (o + 4) k = M.1 (q + 4) k := by
    intro k hk
    rw [← hA, pC_1, if_neg (by omega), pC_1, if_pos rfl, if_pos (by omega), show 0 + (k - 0) = k by omega, pC_1, if_neg (by omega), pC_1, if_neg (by omega), pC_1, if_neg (by omega)]
  have a5 : ∀ k, k < 40 → A.1 (o + 5) k = M.1 (q + 5) k := by
    intro k hk
    rw [← hA, pC_1, if_pos rfl, if_pos (by omega), show 0 + (k - 0) = k by omega, pC_1, if_neg (by omega), pC_1, if_neg (by omega), pC_1, if_neg (by omega), pC_1, if_neg (by omega)]
  have aq : A.1 q = M.1 q := a0 q (by omega)
  have am : A.2 = M.2 := by rw [← hA]; rfl
  rw [aq]
  have hT := hW.1.2
  have hO := hW.2.1.2
  have hAn := hW.2.2.1.2
  obtain ⟨t1, t2, t3, t4, t5⟩ := h
  refine ⟨_, rfl, ⟨⟨?_, ?_, ?_⟩, fun k hk => ?_, ⟨fun t x y => ?_, ?_⟩, ⟨?_, fun i hi => ?_, fun i j hi hj => ?_⟩, fun i hi => ?_⟩, fun c hc => ?_, am⟩
  · simp [pI_1]; exact t1.1
  · simp [pI_1]; exact t1.2.1
  · simp [pI_1]; exact t1.2.2
  · rw [(pI_o _ (by omega)).1, (pI_o _ (by omega)).1, (pI_o _ (by omega)).1, (pI_o _ (by omega)).1, a1 k hk]; exact t2 k hk
  · rw [(pI_o _ (by omega)).1, (pI_o _ (by omega)).1, (pI_o _ (by omega)).1, (pI_o _ (by omega)).1, a2 t (by omega)]; exact t3.1 t x y
  · rw [(pI_o _ (by omega)).1, (pI_o _ (by omega)).1, (pI_o _ (by omega)).1, (pI_o _ (by omega)).1, a2 0 (by omega)]; exact t3.2
  · simp [pI_1]; exact t4.1
  · rw [(pI_o _ (by omega)).1, (pI_o _ (by omega)).1, (pI_o _ (by omega)).1, (pI_o _ (by omega)).1, a3 i (by omega)]; exact t4.2.1 i hi
  · rw [(pI_o _ (by omega)).1, (pI_o _ (by omega)).1, (pI_o _ (by omega)).1, (pI_o _ (by omega)).1, a4 _ (by omega)]; exact t4.2.2 i j hi hj
  · rw [(pI_o _ (by omega)).1, (pI_o _ (by omega)).1, (pI_o _ (by omega)).1, (pI_o _ (by omega)).1, a5 i (by omega)]; exact t5 i hi
  · rw [(pI_o c (by omega)).1, (pI_o c (by omega)).1, (pI_o c (by omega)).1, (pI_o c (by omega)).1, a0 c (by omega)]
theorem n215 (i k : Nat) : (215 : Int32) * nI i + nI k = nI (215 * i + k) := by
  rw [show (215 : Int32) * nI i = nI (215 * i) from pk_mul 215 i, nI_add]
theorem img17 {x : Nat} (hx : x < 3) {N0 : Mem} : ∀ (m i f : Nat) (N1 : Mem), i + m = 215 → m < f → N1.2 = N0.2 → (∀ c, ¬ c = 82 → N1.1 c = N0.1 c) → (∀ j, N1.1 82 j = if 215 * x ≤ j ∧ j < 215 * x + i then N0.1 81 (j - 215 * x) else N0.1 82 j) → ∃ N2, fX10_image_17 f 80 (nI x) (nI i) N1 = some (0, pI N2 83 x (vp_nar .boolean 1)) ∧ N2.2 = N0.2 ∧ (∀ c, ¬ c = 82 → N2.1 c = N0.1 c) ∧ (∀ j, N2.1 82 j = if 215 * x ≤ j ∧ j < 215 * x + 215 then N0.1 81 (j - 215 * x) else N0.1 82 j) := by
  intro m
  induction m with
  | zero =>
    intro i f N1 hm hf h2 h1 h3
    have : i = 215 := by omega
    subst this
    cases f with
    | zero => omega
    | succ f =>
      unfold fX10_image_17
      rw [if_pos (show (215 : Int32) ≤ nI 215 from nI_le (a := 215) (b := 215) (by omega) (by omega)), ib_n (show x < 3 from hx) (by omega), ck_t, tn_n (by omega)]
      exact ⟨N1, rfl, h2, h1, h3⟩
  | succ m ih =>
    intro i f N1 hm hf h2 h1 h3
    cases f with
    | zero => omega
    | succ f =>
      unfold fX10_image_17
      rw [if_neg (show ¬ (215 : Int32) ≤ nI i from nI_ge (b := 215) (by omega) (by omega)), ib_n (show i < 215 by omega) (by omega), ck_t, n215, ib_n (show 215 * x + i < 645 by omega) (by omega), ck_t, tn_n (by omega), tn_n (by omega), nI_1]
      refine ih (i + 1) f _ (by omega) (by omega) h2 (fun c hc => by rw [(pI_o c hc).1]; exact h1 c hc) (fun j => ?_)
      rw [pI_1, if_pos rfl, h3 j, show N1.1 (80 + 1) = N0.1 81 from h1 81 (by decide)]
      by_cases e : j = 215 * x + i
      · rw [if_pos e, if_pos (by omega), show j - 215 * x = i by omega]
      · rw [if_neg e]
        by_cases e2 : 215 * x ≤ j ∧ j < 215 * x + i
        · rw [if_pos e2, if_pos (by omega)]
        · rw [if_neg e2, if_neg (by omega)]
theorem bak29 {x : Nat} (hx : x < 3) {N0 : Mem} : ∀ (m i f : Nat) (N1 : Mem), i + m = 215 → m < f → N1.2 = N0.2 → (∀ c, ¬ c = 81 → N1.1 c = N0.1 c) → (∀ j, N1.1 81 j = if j < i then N0.1 82 (215 * x + j) else N0.1 81 j) → ∃ N2, fX10_back_29 f 80 (nI x) (nI i) N1 = some (0, N2) ∧ N2.2 = N0.2 ∧ (∀ c, ¬ c = 81 → N2.1 c = N0.1 c) ∧ (∀ j, N2.1 81 j = if j < 215 then N0.1 82 (215 * x + j) else N0.1 81 j) := by
  intro m
  induction m with
  | zero =>
    intro i f N1 hm hf h2 h1 h3
    have : i = 215 := by omega
    subst this
    cases f with
    | zero => omega
    | succ f =>
      unfold fX10_back_29
      rw [if_pos (show (215 : Int32) ≤ nI 215 from nI_le (a := 215) (b := 215) (by omega) (by omega))]
      exact ⟨N1, rfl, h2, h1, h3⟩
  | succ m ih =>
    intro i f N1 hm hf h2 h1 h3
    cases f with
    | zero => omega
    | succ f =>
      unfold fX10_back_29
      rw [if_neg (show ¬ (215 : Int32) ≤ nI i from nI_ge (b := 215) (by omega) (by omega)), n215, ib_n (show 215 * x + i < 645 by omega) (by omega), ck_t, ib_n (show i < 215 by omega) (by omega), ck_t, tn_n (by omega), tn_n (by omega), nI_1]
      refine ih (i + 1) f _ (by omega) (by omega) h2 (fun c hc => by rw [(pI_o c hc).1]; exact h1 c hc) (fun j => ?_)
      rw [pI_1, if_pos rfl, h3 j, show N1.1 (80 + 2) = N0.1 82 from h1 82 (by decide)]
      by_cases e : j = i
      · rw [if_pos e, if_pos (by omega), e]
      · rw [if_neg e]
        by_cases e2 : j < i
        · rw [if_pos e2, if_pos (by omega)]
        · rw [if_neg e2, if_neg (by omega)]
def imS (S : St) (x : Nat) : St := (fun i k => if i = 1 + x then S.1 0 k else if i = 4 ∧ k = x then vp_nar .boolean 1 else S.1 i k, S.2)
theorem imS_x (S : St) (x : Nat) : (imS S x).1 (1 + x) = S.1 0 := by funext k; simp [imS]
theorem imS_4 (S : St) {x : Nat} (hx : x < 3) (k : Nat) : (imS S x).1 4 k = if k = x then vp_nar .boolean 1 else S.1 4 k := by
  show (if 4 = 1 + x then _ else if 4 = 4 ∧ k = x then _ else _) = _
  rw [if_neg (by omega)]
  by_cases e : k = x
  · rw [if_pos ⟨rfl, e⟩, if_pos e]
  · rw [if_neg (fun z => e z.2), if_neg e]
theorem imS_i (S : St) (x : Nat) {i : Nat} (h : ¬ i = 1 + x) (h4 : ¬ i = 4) : (imS S x).1 i = S.1 i := by
  funext k
  show (if i = 1 + x then _ else if i = 4 ∧ k = x then _ else _) = _
  rw [if_neg h, if_neg (fun z => h4 z.1)]
theorem SOk.im (h : SOk S) {x : Nat} (hx : x < 3) : SOk (imS S x) := by
  refine ⟨fun i hi => ?_, by rw [imS_i _ _ (by omega) (by omega)]; exact h.2.1, by rw [imS_i _ _ (by omega) (by omega), imS_i _ _ (by omega) (by omega)]; exact h.2.2⟩
  by_cases e : i = 1 + x
  · rw [e, imS_x]; exact h.1 0 (by omega)
  · rw [imS_i _ _ e (by omega)]; exact h.1 i hi
theorem in_2 {x : Int32} (h : inS x 0 2 = true) : ∃ m, m < 3 ∧ x = nI m := by
  obtain ⟨m, hm, e⟩ := in_n (n := 2) (by omega) h
  exact ⟨m, by omega, e⟩
theorem m_image (x : Int32) : Eq2 S (fX9_image 0 x) (fX10_image 80 x) := by
  intro M N hM hN
  unfold fX9_image fX10_image
  rw [wX x 0 2 0 2 rfl rfl, bI_s, wM x 0 2 0 2 rfl rfl, bI_s]
  by_cases hx : inS x 0 2 = true
  · obtain ⟨k, hk, ek⟩ := in_2 hx
    subst ek
    rw [wif_t hx, wif_t hx, ib_n (show k < 3 from hk) (by omega), ck_t, tn_n (by omega)]
    simp only [Nat.zero_add, ck_t]
    obtain ⟨M1, e1, t1, f1, g1⟩ := copyX (M := M) (W := S.1 0) (o := 15 + 1 + 6 * k) (q := 9) (by omega) hM.w.1 hM.1.2.1
    obtain ⟨N2, e2, a2, b2, c2⟩ := img17 hk (N0 := N) 215 0 LF N (by omega) (by unfold LF; omega) rfl (fun _ _ => rfl) (fun j => by rw [if_neg (by omega)])
    rw [e1, bV_s, show fX10_image_17 LF 80 (nI k) 0 N = _ from e2]
    have w : ∀ c, ¬ (16 + 6 * k ≤ c ∧ c ≤ 16 + 6 * k + 5) → ¬ c = 34 → (pI M1 34 k (vp_nar .boolean 1)).1 c = M.1 c := fun c x y => by rw [(pI_o c y).1, f1 c (by omega)]
    have w2 : (pI M1 34 k (vp_nar .boolean 1)).2 = M.2 := g1
    obtain ⟨⟨a, a', a''⟩, ⟨b, b', b''⟩, c, d, e, g, i⟩ := hM
    obtain ⟨⟨ra, ra', ra''⟩, rc, rd, re, rg, ri⟩ := hN
    have wN : ∀ c, ¬ c = 82 → ¬ c = 83 → (pI N2 83 k (vp_nar .boolean 1)).1 c = N.1 c := fun c x y => by rw [(pI_o c y).1, b2 c x]
    refine ⟨0, _, _, imS S k, rfl, rfl, ⟨⟨a.im hk, ?_, ?_⟩, ⟨?_, ?_, ?_⟩, fun u hu => ⟨?_, ?_⟩, ?_, ?_, ?_, ?_⟩, ⟨⟨ra.im hk, ?_, ?_⟩, fun u hu => ⟨fun v hv => ?_, ?_⟩, ?_, ?_, ?_, ?_⟩, fun c hc => ⟨w c (by omega) (by omega), by rw [w2]⟩, fun c hc => ⟨wN c (by omega) (by omega), by show N2.2 c = _; rw [a2]⟩⟩
    · rw [imS_i _ _ (by omega) (by omega)]; exact a'.fr (fun c x y => w c (by omega) (by omega))
    · rw [imS_i _ _ (by omega) (by omega)]; exact a''.fr (fun c x y z => ⟨w c (by omega) (by omega), by rw [w2]⟩)
    · unfold Rx0 at *
      rw [w 36 (by omega) (by omega), w 5 (by omega) (by omega), w 37 (by omega) (by omega)]; exact b
    · rw [vX_fr (fun c x y => w c (by omega) (by omega))]; exact b'
    · rw [vX_fr (fun c x y => w c (by omega) (by omega))]; exact b''
    · by_cases e0 : u = k
      · subst e0
        rw [imS_x]
        exact t1.fr (fun c x y => (pI_o c (by omega)).1)
      · rw [imS_i _ _ (by omega) (by omega)]; exact (c u hu).1.fr (fun c x y => w c (by omega) (by omega))
    · rw [imS_4 _ hk, pI_1, if_pos rfl, f1 34 (by omega), (c u hu).2]
    · rw [w 2 (by omega) (by omega), imS_i _ _ (by omega) (by omega)]; exact d
    · rw [w 1 (by omega) (by omega), imS_i _ _ (by omega) (by omega)]; exact e
    · rw [w 77 (by omega) (by omega), w 78 (by omega) (by omega), imS_i _ _ (by omega) (by omega), imS_i _ _ (by omega) (by omega)]; exact g
    · rw [w2]; exact i
    · rw [wN 81 (by decide) (by decide), imS_i _ _ (by omega) (by omega)]; exact ra'
    · exact vM_fr (fun c x y => wN _ (by omega) (by omega)) ra''
    · rw [(pI_o 82 (by decide)).1, c2]
      by_cases e0 : u = k
      · subst e0
        rw [imS_x, if_pos (by omega), ra', show 215 * u + v - 215 * u = v by omega]
      · rw [imS_i _ _ (by omega) (by omega), if_neg (by omega)]; exact (rc u hu).1 v hv
    · rw [imS_4 _ hk, pI_1, if_pos rfl, b2 83 (by decide), (rc u hu).2]
    · rw [wN 84 (by decide) (by decide), imS_i _ _ (by omega) (by omega)]; exact rd
    · rw [wN 80 (by decide) (by decide), imS_i _ _ (by omega) (by omega)]; exact re
    · rw [wN 114 (by decide) (by decide), wN 115 (by decide) (by decide), imS_i _ _ (by omega) (by omega), imS_i _ _ (by omega) (by omega)]; exact rg
    · show ∀ j, j < 240 → N2.2 116 j = _
      rw [a2]; exact ri
  · rw [wif_f hx, wif_f hx]
    exact ⟨_, M, N, S, rfl, rfl, hM, hN, FrCl.rf, FrRf.rf⟩
theorem m_back (x : Int32) : Eq2 S (fX9_back 0 x) (fX10_back 80 x) := by
  intro M N hM hN
  unfold fX9_back fX10_back
  rw [wX x 0 2 0 2 rfl rfl, bI_s, wM x 0 2 0 2 rfl rfl, bI_s]
  by_cases hx : inS x 0 2 = true
  · obtain ⟨k, hk, ek⟩ := in_2 hx
    subst ek
    have hWk : WOk (S.1 (1 + k)) := hM.1.1.1 (1 + k) (by omega)
    rw [wif_t hx, wif_t hx, ib_n (show k < 3 from hk) (by omega), tn_n (by omega)]
    simp only [Nat.zero_add, ck_t]
    rw [(hM.2.2.1 k hk).2, show N.1 (80 + 3) k = _ from (hN.2.1 k hk).2]
    by_cases h0 : S.1 4 k = 0
    · rw [if_pos h0, if_pos h0]
      exact ⟨_, M, N, S, rfl, rfl, hM, hN, FrCl.rf, FrRf.rf⟩
    · rw [if_neg h0, if_neg h0]
      obtain ⟨M1, e1, t1, f1, g1⟩ := copyX (M := M) (W := S.1 (1 + k)) (o := 9) (q := 15 + 1 + 6 * k) (by omega) hWk.1 (hM.2.2.1 k hk).1
      obtain ⟨N2, e2, a2, b2, c2⟩ := bak29 hk (N0 := N) 215 0 LF N (by omega) (by unfold LF; omega) rfl (fun _ _ => rfl) (fun j => by rw [if_neg (by omega)])
      have z1 : GZ (vX 41 M1) := by rw [vX_fr (fun c x y => f1 c (by omega))]; exact hM.2.1.2.1
      have r1 : Rx0 M1 := by
        have := hM.2.1.1
        unfold Rx0 at *
        rw [f1 36 (by omega), f1 5 (by omega), f1 37 (by omega)]; exact this
      obtain ⟨M2, e3, c3, r3, z3, f3⟩ := rebuildX hWk t1 r1 z1
      rw [e1, bV_s, e3, bV_s, show fX10_back_29 LF 80 (nI k) 0 N = _ from e2]
      refine ⟨0, M2, N2, wdS S (S.1 (1 + k)), rfl, rfl, hM.wd hWk (t1.fr (fun c x y => (f3 c (by omega) (by omega)).1)) c3 r3 z3 (fun c x y z => ⟨by rw [(f3 c (by omega) (by omega)).1, f1 c (by omega)], by rw [(f3 c (by omega) (by omega)).2, g1]⟩), hN.wd hWk ?_ (fun c x y => ⟨b2 c y, by rw [a2]⟩), fun c hc => ⟨by rw [(f3 c (by omega) (by omega)).1, f1 c (by omega)], by rw [(f3 c (by omega) (by omega)).2, g1]⟩, fun c hc => ⟨b2 c (by omega), by rw [a2]⟩⟩
      funext j
      rw [c2 j]
      by_cases hj : j < 215
      · rw [if_pos hj]; exact (hN.2.1 k hk).1 j hj
      · rw [if_neg hj, hN.1.2.1, hN.w.2.2.2.1 j (by omega), hWk.2.2.2.1 j (by omega)]
  · rw [wif_f hx, wif_f hx]
    exact ⟨_, M, N, S, rfl, rfl, hM, hN, FrCl.rf, FrRf.rf⟩
end Meth10
