/-! Public methods, both sides: the slots (row, write, number). -/
def Eq2L (S : St) (fc fr : Mem → Option (Int64 × Mem)) : Prop := ∀ M N, JC S M → JR S N → ∃ v M' N' S', fc M = some (v, M') ∧ fr N = some (v, N') ∧ JC S' M' ∧ JR S' N' ∧ FrCl M M' ∧ FrRf N N'
section Meth6
variable {S S' : St} {M N : Mem}
theorem JC.sl (h : JC S M) {M' : Mem} (hi : ∀ i, ¬ i = 7 → ¬ i = 8 → S'.1 i = S.1 i) (hs : ∀ i, i < 4 → (S'.1 7 i = -1 ∨ ∃ n, n ≤ 60 ∧ S'.1 7 i = nI n) ∧ (S'.1 8 i = 0 ∨ S'.1 8 i = 1)) (f : ∀ c, c < 77 → M'.1 c = M.1 c ∧ M'.2 c = M.2 c) (g : ∀ i, i < 4 → M'.1 77 i = S'.1 8 i ∧ M'.1 78 i = S'.1 7 i) (g2 : ∀ j, j < 240 → M'.2 79 j = S'.2 j) : JC S' M' := by
  obtain ⟨⟨a1, a2, a3⟩, ⟨b1, b2, b3⟩, c1, d1, e1, g1, i1⟩ := h
  have w : ∀ c, c < 77 → M'.1 c = M.1 c := fun c x => (f c x).1
  have s0 := hi 0 (by omega) (by omega)
  refine ⟨⟨⟨fun i h => by rw [hi i (by omega) (by omega)]; exact a1.1 i h, by rw [hi 6 (by omega) (by omega)]; exact a1.2.1, hs⟩, by rw [s0]; exact a2.fr (fun c x y => w c (by omega)), by rw [s0]; exact a3.fr (fun c x y z => f c (by omega))⟩, ⟨?_, ?_, ?_⟩, fun i hh => ⟨by rw [hi (1 + i) (by omega) (by omega)]; exact (c1 i hh).1.fr (fun c x y => w c (by omega)), ?_⟩, ?_, ?_, g, g2⟩
  · unfold Rx0 at *
    rw [w 36 (by omega), w 5 (by omega), w 37 (by omega)]; exact b1
  · rw [vX_fr (fun c x y => w c (by omega))]; exact b2
  · rw [vX_fr (fun c x y => w c (by omega))]; exact b3
  · rw [w 34 (by omega), hi 4 (by omega) (by omega)]; exact (c1 i hh).2
  · rw [w 2 (by omega), hi 5 (by omega) (by omega)]; exact d1
  · rw [w 1 (by omega), hi 6 (by omega) (by omega)]; exact e1
theorem JR.sl (h : JR S N) {N' : Mem} (hi : ∀ i, ¬ i = 7 → ¬ i = 8 → S'.1 i = S.1 i) (hs : ∀ i, i < 4 → (S'.1 7 i = -1 ∨ ∃ n, n ≤ 60 ∧ S'.1 7 i = nI n) ∧ (S'.1 8 i = 0 ∨ S'.1 8 i = 1)) (f : ∀ c, c < 114 → N'.1 c = N.1 c ∧ N'.2 c = N.2 c) (g : ∀ i, i < 4 → N'.1 115 i = S'.1 8 i ∧ N'.1 114 i = S'.1 7 i) (g2 : ∀ j, j < 240 → N'.2 116 j = S'.2 j) : JR S' N' := by
  obtain ⟨⟨a1, a2, a3⟩, c1, d1, e1, g1, i1⟩ := h
  have w : ∀ c, c < 114 → N'.1 c = N.1 c := fun c x => (f c x).1
  refine ⟨⟨⟨fun i h => by rw [hi i (by omega) (by omega)]; exact a1.1 i h, by rw [hi 6 (by omega) (by omega)]; exact a1.2.1, hs⟩, by rw [w 81 (by omega), hi 0 (by omega) (by omega)]; exact a2, vM_fr (fun c x y => w _ (by omega)) a3⟩, fun i hh => ?_, ?_, ?_, g, g2⟩
  · rw [w 82 (by omega), w 83 (by omega), hi (1 + i) (by omega) (by omega), hi 4 (by omega) (by omega)]; exact c1 i hh
  · rw [w 84 (by omega), hi 5 (by omega) (by omega)]; exact d1
  · rw [w 80 (by omega), hi 6 (by omega) (by omega)]; exact e1
theorem slX (x : Int32) (M : Mem) : fX9_isSlot x M = some (wkI (inS x 0 3), M) := by
  unfold fX9_isSlot
  rw [wX x 0 3 0 3 rfl rfl, bI_s, isB_wk, ck_t]
theorem slM (x : Int32) (M : Mem) : fX10_isSlot x M = some (wkI (inS x 0 3), M) := by
  unfold fX10_isSlot
  rw [wM x 0 3 0 3 rfl rfl, bI_s, isB_wk, ck_t]
theorem in_3 {x : Int32} (h : inS x 0 3 = true) : ∃ m, m < 4 ∧ x = nI m := by
  obtain ⟨m, hm, e⟩ := in_n (n := 3) (by omega) h
  exact ⟨m, by omega, e⟩
theorem n60 (i : Nat) : (60 : Int32) * nI i = nI (60 * i) := pk_mul 60 i
theorem fill60 {e : Nat} (he : e ≤ 240) {M0 : Mem} (b : Nat) : ∀ (m i f : Nat) (M1 : Mem), i + m = e → m < f → b ≤ i → M1.1 = M0.1 → (∀ c, ¬ c = 79 → M1.2 c = M0.2 c) → (∀ j, M1.2 79 j = if b ≤ j ∧ j < i then 0 else M0.2 79 j) → ∃ M2, fJ7_fill_bad5a_10 f 79 (nI e) 0 (nI i) M1 = some M2 ∧ M2.1 = M0.1 ∧ (∀ c, ¬ c = 79 → M2.2 c = M0.2 c) ∧ (∀ j, M2.2 79 j = if b ≤ j ∧ j < e then 0 else M0.2 79 j) := by
  intro m
  induction m with
  | zero =>
    intro i f M1 hm hf hb h1 h2 h3
    have : i = e := by omega
    subst this
    cases f with
    | zero => omega
    | succ f =>
      unfold fJ7_fill_bad5a_10
      rw [if_pos (nI_le (by omega) (by omega))]
      exact ⟨M1, rfl, h1, h2, h3⟩
  | succ m ih =>
    intro i f M1 hm hf hb h1 h2 h3
    cases f with
    | zero => omega
    | succ f =>
      unfold fJ7_fill_bad5a_10
      rw [if_neg (nI_ge (by omega) (by omega)), show (kd 79).2 = 240 from rfl, ib_n (show i < 240 by omega) (by omega), ck_t, tn_n (by omega), nI_1]
      refine ih (i + 1) f _ (by omega) (by omega) (by omega) h1 (fun c hc => by rw [(pL_o c hc).2]; exact h2 c hc) (fun j => ?_)
      rw [pL_2, if_pos rfl, h3 j]
      by_cases e : j = i
      · rw [if_pos e, if_pos (by omega)]
      · rw [if_neg e]
        by_cases e2 : b ≤ j ∧ j < i
        · rw [if_pos e2, if_pos (by omega)]
        · rw [if_neg e2, if_neg (by omega)]
theorem row50 {x : Nat} (hx : x < 4) {N0 : Mem} : ∀ (m i f : Nat) (N1 : Mem), i + m = 60 → m < f → N1.1 = N0.1 → (∀ c, ¬ c = 116 → N1.2 c = N0.2 c) → (∀ j, N1.2 116 j = if 60 * x ≤ j ∧ j < 60 * x + i then 0 else N0.2 116 j) → ∃ N2, fX10_row_50 f 80 (nI x) (nI i) N1 = some (0, N2) ∧ N2.1 = N0.1 ∧ (∀ c, ¬ c = 116 → N2.2 c = N0.2 c) ∧ (∀ j, N2.2 116 j = if 60 * x ≤ j ∧ j < 60 * x + 60 then 0 else N0.2 116 j) := by
  intro m
  induction m with
  | zero =>
    intro i f N1 hm hf h1 h2 h3
    have : i = 60 := by omega
    subst this
    cases f with
    | zero => omega
    | succ f =>
      unfold fX10_row_50
      rw [if_pos (show (60 : Int32) ≤ nI 60 from nI_le (a := 60) (b := 60) (by omega) (by omega))]
      exact ⟨N1, rfl, h1, h2, h3⟩
  | succ m ih =>
    intro i f N1 hm hf h1 h2 h3
    cases f with
    | zero => omega
    | succ f =>
      unfold fX10_row_50
      rw [if_neg (show ¬ (60 : Int32) ≤ nI i from nI_ge (b := 60) (by omega) (by omega)), n60, nI_add, ib_n (show 60 * x + i < 240 by omega) (by omega), ck_t, tn_n (by omega), nI_1]
      refine ih (i + 1) f _ (by omega) (by omega) h1 (fun c hc => by rw [(pL_o c hc).2]; exact h2 c hc) (fun j => ?_)
      rw [pL_2, if_pos rfl, h3 j]
      by_cases e : j = 60 * x + i
      · rw [if_pos e, if_pos (by omega)]
      · rw [if_neg e]
        by_cases e2 : 60 * x ≤ j ∧ j < 60 * x + i
        · rw [if_pos e2, if_pos (by omega)]
        · rw [if_neg e2, if_neg (by omega)]
def rwS (S : St) (x : Nat) (w l : Int32) : St := (fun i k => if i = 7 ∧ k = x then l else if i = 8 ∧ k = x then w else S.1 i k, fun j => if 60 * x ≤ j ∧ j < 60 * x + 60 then 0 else S.2 j)
theorem rwS_i (S : St) (x : Nat) (w l : Int32) : ∀ i, ¬ i = 7 → ¬ i = 8 → (rwS S x w l).1 i = S.1 i := by
  intro i h7 h8
  funext k
  show (if i = 7 ∧ k = x then l else if i = 8 ∧ k = x then w else S.1 i k) = _
  rw [if_neg (fun z => h7 z.1), if_neg (fun z => h8 z.1)]
theorem rwS_7 (S : St) (x : Nat) (w l : Int32) (k : Nat) : (rwS S x w l).1 7 k = if k = x then l else S.1 7 k := by simp [rwS]
theorem rwS_8 (S : St) (x : Nat) (w l : Int32) (k : Nat) : (rwS S x w l).1 8 k = if k = x then w else S.1 8 k := by simp [rwS]
theorem m_row (x y z : Int32) : Eq2 S (fX9_row 0 x y z) (fX10_row 80 x y z) := by
  intro M N hM hN
  unfold fX9_row fX10_row
  rw [slX, bI_s, slM, bI_s]
  by_cases hx : inS x 0 3 = true
  · rw [wif_t hx, wif_t hx, wX y 0 1 0 1 rfl rfl, bI_s, wM y 0 1 0 1 rfl rfl, bI_s]
    by_cases hy : inS y 0 1 = true
    · rw [wif_t hy, wif_t hy]
      by_cases hz : z ≤ 60
      · rw [if_pos hz, if_pos hz]
        by_cases hz0 : 0 ≤ z
        · rw [if_pos hz0, if_pos hz0]
          obtain ⟨k, hk, ek⟩ := in_3 hx
          obtain ⟨w, hw, ew⟩ := in_n (n := 1) (by omega) hy
          obtain ⟨l, hl, el⟩ := in_n (x := z) (n := 60) (by omega) (by unfold inS; simp only [decide_eq_true_eq]; exact ⟨hz0, hz⟩)
          subst ek
          subst ew
          subst el
          unfold fX5_renew fJ7_fill_bad5a fJ7_rangeCheck_23922
          simp only [Nat.zero_add]
          rw [ib_n (show k < 4 by omega) (by omega), ck_t, ck_t, ck_t, ck_t, tn_n (by omega), nI_1, n60, n60, show (kd (76 + 3)).2 = 240 from rfl, if_pos (nI_le (show 60 * k ≤ 60 * (k + 1) by omega) (by omega)), if_pos (nI_pos' (by omega)), if_pos (nI_le (show 60 * (k + 1) ≤ 240 by omega) (by omega)), bV_s]
          obtain ⟨M2, e2, a2, b2, c2⟩ := fill60 (e := 60 * (k + 1)) (by omega) (M0 := pI (pI M (76 + 1) k (nI w)) (76 + 2) k (nI l)) (60 * k) 60 (60 * k) LF _ (by omega) (by unfold LF; omega) (by omega) rfl (fun _ _ => rfl) (fun j => by rw [if_neg (by omega)])
          obtain ⟨N2, e3, a3, b3, c3⟩ := row50 (x := k) hk (N0 := pI (pI N (80 + 34) k (nI l)) (80 + 35) k (nI w)) 60 0 LF _ (by omega) (by unfold LF; omega) rfl (fun _ _ => rfl) (fun j => by rw [if_neg (by omega)])
          rw [show fJ7_fill_bad5a_10 LF (76 + 3) (nI (60 * (k + 1))) 0 (nI (60 * k)) (pI (pI M (76 + 1) k (nI w)) (76 + 2) k (nI l)) = _ from e2, bV_s, bV_s, show fX10_row_50 LF 80 (nI k) 0 _ = _ from e3]
          have hs : ∀ i, i < 4 → ((rwS S k (nI w) (nI l)).1 7 i = -1 ∨ ∃ n, n ≤ 60 ∧ (rwS S k (nI w) (nI l)).1 7 i = nI n) ∧ ((rwS S k (nI w) (nI l)).1 8 i = 0 ∨ (rwS S k (nI w) (nI l)).1 8 i = 1) := by
            intro i hi
            rw [rwS_7, rwS_8]
            by_cases e : i = k
            · rw [if_pos e, if_pos e]
              refine ⟨Or.inr ⟨l, hl, rfl⟩, ?_⟩
              have : w = 0 ∨ w = 1 := by omega
              rcases this with rfl | rfl
              · left; rfl
              · right; rfl
            · rw [if_neg e, if_neg e]; exact hM.1.1.2.2 i hi
          refine ⟨0, M2, N2, rwS S k (nI w) (nI l), rfl, rfl, hM.sl (rwS_i _ _ _ _) hs (fun c hc => ⟨?_, ?_⟩) (fun i hi => ⟨?_, ?_⟩) (fun j hj => ?_), hN.sl (rwS_i _ _ _ _) hs (fun c hc => ⟨?_, ?_⟩) (fun i hi => ⟨?_, ?_⟩) (fun j hj => ?_), fun c hc => ⟨?_, ?_⟩, fun c hc => ⟨?_, ?_⟩⟩
          · rw [a2, (pI_o c (by omega)).1, (pI_o c (by omega)).1]
          · rw [b2 c (by omega)]; rfl
          · rw [a2, rwS_8, pI_1, if_neg (by decide), pI_1, if_pos rfl, (hM.2.2.2.2.2.1 i hi).1]
          · rw [a2, rwS_7, pI_1, if_pos rfl, (pI_o 78 (by decide)).1, (hM.2.2.2.2.2.1 i hi).2]
          · rw [c2 j]
            show _ = (if 60 * k ≤ j ∧ j < 60 * k + 60 then 0 else S.2 j)
            rw [← hM.2.2.2.2.2.2 j hj, show 60 * (k + 1) = 60 * k + 60 by omega]; rfl
          · rw [a3, (pI_o c (by omega)).1, (pI_o c (by omega)).1]
          · rw [b3 c (by omega)]; rfl
          · rw [a3, rwS_8, pI_1, if_pos rfl, (pI_o 115 (by decide)).1, (hN.2.2.2.2.1 i hi).1]
          · rw [a3, rwS_7, pI_1, if_neg (by decide), pI_1, if_pos rfl, (hN.2.2.2.2.1 i hi).2]
          · rw [c3 j]
            show _ = (if 60 * k ≤ j ∧ j < 60 * k + 60 then 0 else S.2 j)
            rw [← hN.2.2.2.2.2 j hj]; rfl
          · rw [a2, (pI_o c (by omega)).1, (pI_o c (by omega)).1]
          · rw [b2 c (by omega)]; rfl
          · rw [a3, (pI_o c (by omega)).1, (pI_o c (by omega)).1]
          · rw [b3 c (by omega)]; rfl
        · rw [if_neg hz0, if_neg hz0]
          exact ⟨_, M, N, S, rfl, rfl, hM, hN, FrCl.rf, FrRf.rf⟩
      · rw [if_neg hz, if_neg hz]
        exact ⟨_, M, N, S, rfl, rfl, hM, hN, FrCl.rf, FrRf.rf⟩
    · rw [wif_f hy, wif_f hy]
      exact ⟨_, M, N, S, rfl, rfl, hM, hN, FrCl.rf, FrRf.rf⟩
  · rw [wif_f hx, wif_f hx]
    exact ⟨_, M, N, S, rfl, rfl, hM, hN, FrCl.rf, FrRf.rf⟩
theorem hasRX (hM : JC S M) {k : Nat} (hk : k < 4) : fX5_hasRow 76 (nI k) M = some (wkI (!decide (S.1 7 k = -1)), M) := by
  unfold fX5_hasRow
  rw [ib_n (show k < 4 from hk) (by omega), ck_t, tn_n (by omega), show M.1 (76 + 2) k = _ from (hM.2.2.2.2.2.1 k hk).2]
  by_cases e : S.1 7 k = -1
  · rw [if_pos e]; simp [e, wkI]
  · rw [if_neg e]; simp [e, wkI]
theorem m_write (x y : Int32) (v : Int64) : Eq2 S (fX9_write 0 x y v) (fX10_write 80 x y v) := by
  intro M N hM hN
  unfold fX9_write fX10_write
  rw [slX, bI_s, slM, bI_s]
  by_cases hx : inS x 0 3 = true
  · obtain ⟨k, hk, ek⟩ := in_3 hx
    subst ek
    simp only [Nat.zero_add]
    rw [wif_t hx, wif_t hx, hasRX hM hk, bI_s, ib_n (show k < 4 from hk) (by omega), ck_t, ck_t, ck_t, tn_n (by omega), show N.1 (80 + 34) k = _ from (hN.2.2.2.2.1 k hk).2]
    by_cases hr : S.1 7 k = -1
    · rw [wif_f (by simp [hr]), if_pos hr]
      exact ⟨_, M, N, S, rfl, rfl, hM, hN, FrCl.rf, FrRf.rf⟩
    · rw [wif_t (by simp [hr]), if_neg hr, show M.1 (76 + 2) k = _ from (hM.2.2.2.2.2.1 k hk).2, wX0, bI_s, wM0, bI_s]
      by_cases hy : inS y 0 (S.1 7 k - 1) = true
      · obtain ⟨n, hn, en⟩ := (hM.1.1.2.2 k hk).1.resolve_left hr
        rw [en] at hy
        obtain ⟨j, hj, ej⟩ := in_m (by omega) hy
        subst ej
        rw [en, wif_t hy, wif_t hy]
        unfold fX5_set
        rw [ib_n (show k < 4 from hk) (by omega), ck_t, ck_t, tn_n (by omega), show M.1 (76 + 1) k = _ from (hM.2.2.2.2.2.1 k hk).1, show N.1 (80 + 35) k = _ from (hN.2.2.2.2.1 k hk).1, n60, nI_add, ib_n (show 60 * k + j < 240 by omega) (by omega), ck_t, ck_t, ck_t, tn_n (by omega)]
        have fin : ∀ u : Int64, ∃ v M' N' S', (some ((0 : Int32), pL M (76 + 3) (60 * k + j) u) : Option (Int32 × Mem)) = some (v, M') ∧ (some ((0 : Int32), pL N (80 + 36) (60 * k + j) u) : Option (Int32 × Mem)) = some (v, N') ∧ JC S' M' ∧ JR S' N' ∧ FrCl M M' ∧ FrRf N N' := by
          intro u
          refine ⟨0, _, _, (S.1, fun i => if i = 60 * k + j then u else S.2 i), rfl, rfl, hM.sl (fun _ _ _ => rfl) hM.1.1.2.2 (fun c hc => pL_o c (by omega)) (fun i hi => ?_) (fun i hi => ?_), hN.sl (fun _ _ _ => rfl) hN.1.1.2.2 (fun c hc => pL_o c (by omega)) (fun i hi => ?_) (fun i hi => ?_), fun c hc => pL_o c (by omega), fun c hc => pL_o c (by omega)⟩
          · exact hM.2.2.2.2.2.1 i hi
          · rw [pL_2, if_pos rfl, hM.2.2.2.2.2.2 i hi]
          · exact hN.2.2.2.2.1 i hi
          · rw [pL_2, if_pos rfl, hN.2.2.2.2.2 i hi]
        by_cases hw : S.1 8 k = 0
        · rw [if_pos hw, if_pos hw, bV_s]; exact fin _
        · rw [if_neg hw, if_neg hw, bV_s]; exact fin _
      · rw [wif_f hy, wif_f hy]
        exact ⟨_, M, N, S, rfl, rfl, hM, hN, FrCl.rf, FrRf.rf⟩
  · rw [wif_f hx, wif_f hx]
    exact ⟨_, M, N, S, rfl, rfl, hM, hN, FrCl.rf, FrRf.rf⟩
theorem m_number (x y : Int32) : Eq2L S (fX9_number 0 x y) (fX10_number 80 x y) := by
  intro M N hM hN
  unfold fX9_number fX10_number fX5_at fX10_numberIn
  rw [slX, bI_s, slM, bI_s]
  by_cases hx : inS x 0 3 = true
  · obtain ⟨k, hk, ek⟩ := in_3 hx
    subst ek
    simp only [Nat.zero_add]
    rw [wif_t hx, wif_t hx, ib_n (show k < 4 from hk) (by omega), ck_t, ck_t, ck_t, tn_n (by omega), show N.1 (80 + 34) k = _ from (hN.2.2.2.2.1 k hk).2, show M.1 (76 + 2) k = _ from (hM.2.2.2.2.2.1 k hk).2, wX0, bI_s, wM0, bI_s]
    by_cases hr : S.1 7 k = -1
    · have hf : ¬ inS y 0 (S.1 7 k - 1) = true := by
        rw [hr]; unfold inS; simp only [decide_eq_true_eq]
        rw [fa_le, fa_le, show (0 : Int32).toInt = 0 from rfl, show ((-1 : Int32) - 1).toInt = -2 from rfl]; omega
      rw [wif_f hf, if_pos hr]
      exact ⟨_, M, N, S, rfl, rfl, hM, hN, FrCl.rf, FrRf.rf⟩
    · rw [if_neg hr]
      by_cases hy : inS y 0 (S.1 7 k - 1) = true
      · obtain ⟨n, hn, en⟩ := (hM.1.1.2.2 k hk).1.resolve_left hr
        rw [en] at hy
        obtain ⟨j, hj, ej⟩ := in_m (by omega) hy
        subst ej
        rw [en, wif_t hy, wif_t hy, n60, nI_add, ib_n (show 60 * k + j < 240 by omega) (by omega), ck_t, ck_t, tn_n (by omega), bL_s, bL_s, show M.2 (76 + 3) (60 * k + j) = _ from hM.2.2.2.2.2.2 _ (by omega), show N.2 (80 + 36) (60 * k + j) = _ from hN.2.2.2.2.2 _ (by omega)]
        exact ⟨_, M, N, S, rfl, rfl, hM, hN, FrCl.rf, FrRf.rf⟩
      · rw [wif_f hy, wif_f hy]
        exact ⟨_, M, N, S, rfl, rfl, hM, hN, FrCl.rf, FrRf.rf⟩
  · rw [wif_f hx, wif_f hx]
    exact ⟨_, M, N, S, rfl, rfl, hM, hN, FrCl.rf, FrRf.rf⟩
end Meth6
