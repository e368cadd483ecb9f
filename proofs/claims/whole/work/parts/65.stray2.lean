/-! Going astray, whole; public methods: strays, stray. -/
section Stray2
variable {S : St} {M N : Mem} {W : Wd}
theorem g35 {b s i0 : Nat} (hb : b < 240) (hs : s ≤ 200) {r : Rg} {x3 x4 : Int32} {N0 : Mem} : ∀ (m k f : Nat) (N1 : Mem), k + m = 8 → m < f → N1.1 91 b = nI s → Reg 87 (8 * s) r N1 → (∀ j, j < k → N1.1 112 j = nI (r j)) → (∀ c, ¬ c = 112 → N1.1 c = N0.1 c) → N1.2 = N0.2 → ∃ N2, fX10_goAstray_35 f 80 (nI b) x3 x4 (nI k) N1 = fX10_goAstray_72 LF 80 x3 x4 N2 ∧ Reg 112 0 r N2 ∧ (∀ c, ¬ c = 112 → N2.1 c = N0.1 c) ∧ N2.2 = N0.2 := by
  intro m
  induction m with
  | zero =>
    intro k f N1 hm hf h91 hR hC h1 h2
    cases f with
    | zero => omega
    | succ f =>
      unfold fX10_goAstray_35
      rw [if_pos (show (8 : Int32) ≤ nI k from nI_le (a := 8) (by omega) (by omega))]
      exact ⟨N1, rfl, fun j hj => by rw [Nat.zero_add]; exact hC j (by omega), h1, h2⟩
  | succ m ih =>
    intro k f N1 hm hf h91 hR hC h1 h2
    cases f with
    | zero => omega
    | succ f =>
      have e0 : fX10_goAstray_35 (f + 1) 80 (nI b) x3 x4 (nI k) N1 = fX10_goAstray_35 f 80 (nI b) x3 x4 (nI (k + 1)) (pI N1 112 k (nI (r k))) := by
        rw [fX10_goAstray_35]
        rw [if_neg (show ¬ (8 : Int32) ≤ nI k from nI_ge (b := 8) (by omega) (by omega)), ib_n (show b < 240 from hb) (by omega), ck_t, tn_n (by omega), show N1.1 (80 + 11) b = _ from h91, show (8 : Int32) * nI s = nI (8 * s) from pk_mul 8 s, nI_add, ib_n (show 8 * s + k < 1608 by omega) (by omega), ck_t, ib_n (show k < 8 by omega) (by omega), ck_t, tn_n (by omega), tn_n (by omega), nI_1, show N1.1 (80 + 7) (8 * s + k) = _ from hR k (by omega)]
      rw [e0]
      exact ih (k + 1) f (pI N1 112 k (nI (r k))) (by omega) (by omega) (by rw [pI_1, if_neg (by decide)]; exact h91) (fun j hj => by rw [pI_1, if_neg (by decide)]; exact hR j hj) (fun j hj => by
        rw [pI_1, if_pos rfl]
        by_cases e : j = k
        · rw [if_pos e, e]
        · rw [if_neg e]; exact hC j (by omega)) (fun c hc => by rw [(pI_o c hc).1]; exact h1 c hc) h2
theorem wanG (hM : JC S M) (hp : pgS (S.1 0) = true) (hA : LyM (S.1 0) 80 N) (hN : N.1 81 = S.1 0) {b : Nat} (hb : b < (tr (S.1 0) (nS (S.1 0))).length) {gv : Int32} (hg : N.1 (80 + 26) b = gv) (h01 : gv = 0 ∨ gv = 1) (hne : ¬ gv = M.1 40 (9 * b + 1)) : ∃ v r' M' N', fX9_wander 0 (nI b) M = some (v, M') ∧ fX10_goAstray 80 (nI b) N = some (v, N') ∧ Reg 38 0 r' M' ∧ Reg 112 0 r' N' ∧ (∀ c, ¬ c = 38 → M'.1 c = M.1 c) ∧ M'.2 = M.2 ∧ (∀ c, ¬ c = 112 → N'.1 c = N.1 c) ∧ N'.2 = N.2 := by
  have hW := hM.w
  have hl := all_len hW.1
  have hlen : b < (allS (S.1 0)).length := by unfold allS; rw [List.length_append]; omega
  obtain ⟨s, s1, s2, s3⟩ := tr_at (nS (S.1 0)) b hb
  obtain ⟨k1, k2, -⟩ := nS_ok (S.1 0)
  have hx : (allS (S.1 0))[b]? = some ((rs (S.1 0) s).1, wkI (tkB (S.1 0) (rs (S.1 0) s).1 (rs (S.1 0) s).2), nI s) := by
    unfold allS; rw [List.getElem?_append_left hb]; exact s2
  obtain ⟨x0, x1, x8⟩ := hM.1.2.2.2.1.2 b _ hx
  obtain ⟨y0, y1, y8⟩ := hA.2.2.2.2.2 b _ hx
  have hc1 := (cd_o (k1 s s1)).1
  obtain ⟨i40, rok⟩ := rs_ok hW.1 s (fun u hu => k1 u (by omega))
  obtain ⟨z1, z2⟩ := (hM.1.2.2.1 hp).1.2.2 s (by omega)
  obtain ⟨-, w2⟩ := hA.2.2.2.1 s (by omega)
  rw [x1] at hne
  have hbr := s3
  simp only [brS, Bool.and_eq_true, decide_eq_true_eq] at hbr
  obtain ⟨h34, h44, -⟩ := hW.2.2.2.2.1 hp
  have hw4 : (S.1 0) 4 = nI (tn ((S.1 0) 4)) := (hW.2.1 hp).1 4 (by omega)
  unfold fX9_wander fX4_wander fX10_goAstray
  simp only [Nat.zero_add]
  have hcp : cpok (nI (8 * s)) 0 (nI 8) 1608 8 = true := by
    unfold cpok
    rw [tn_n (by omega), tn_n (by omega), show tn (0 : Int32) = 0 from rfl]
    have p1 : ¬ nI (8 * s) < 0 := nI_nneg (by omega)
    have p2 : ¬ (0 : Int32) < 0 := by decide
    have p3 : ¬ nI 8 < 0 := nI_nneg (by omega)
    simp only [p1, p2, p3, decide_false, Bool.not_false, Bool.true_and, Bool.and_eq_true, decide_eq_true_eq]
    omega
  rw [show fX8_fact 39 (nI b) 8 M = _ from factX (k := 8) (by omega) (by omega) M, bI_s, show fX8_fact 39 (nI b) 1 M = _ from factX (k := 1) (by omega) (by omega) M, bI_s, x8, x1, show (8 : Int32) * nI s = nI (8 * s) from pk_mul 8 s, show cpok (nI (8 * s)) 0 8 1608 8 = true from hcp, ck_t, tn_n (show 8 * s < 2 ^ 31 by omega), show tn (0 : Int32) = 0 from rfl, show tn (8 : Int32) = 8 from rfl, ib_n (show s < 201 by omega) (by omega), ck_t, ck_t, tn_n (show s < 2 ^ 31 by omega), ib_n (show b < 240 by omega) (by omega), ck_t, ck_t, tn_n (show b < 2 ^ 31 by omega), hg, show N.1 (80 + 9) b = _ from y0]
  generalize hM1 : pC M (35 + 2) (35 + 3) (8 * s) 0 8 = M1
  have q1 : ∀ c, ¬ c = 38 → M1.1 c = M.1 c := by
    intro c hc
    funext j
    rw [← hM1, pC_1, if_neg hc]
  have q2 : M1.2 = M.2 := by rw [← hM1]; rfl
  have q3 : Reg 38 0 (rs (S.1 0) s).2 M1 := by
    intro k hk
    rw [← hM1, pC_1, if_pos rfl, if_pos (by omega), show 8 * s + (0 + k - 0) = 8 * s + k by omega]
    exact z2 k hk
  have q4 : Tk (S.1 0) 9 M1 := hM.1.2.1.2.2.2.1.fr (q1 _ (by decide)) (q1 _ (by decide)) (q1 _ (by decide))
  rw [show M1.1 (35 + 1) s = nI (rs (S.1 0) s).1 by rw [q1 _ (by decide)]; exact z1]
  have go : ∀ i, i ≤ 40 → ∃ v r' M' N', fX4_wander_44 35 9 (nI i) M1 = some (v, M') ∧ fX10_goAstray_28 80 (nI b) (nI i) N = some (v, N') ∧ Reg 38 0 r' M' ∧ Reg 112 0 r' N' ∧ (∀ c, ¬ c = 38 → M'.1 c = M.1 c) ∧ M'.2 = M.2 ∧ (∀ c, ¬ c = 112 → N'.1 c = N.1 c) ∧ N'.2 = N.2 := by
    intro i hi
    obtain ⟨N1, e1, p1, p2, p3⟩ := g35 (i0 := 0) (x3 := nI i) (x4 := 0) (show b < 240 by omega) (show s ≤ 200 by omega) (r := (rs (S.1 0) s).2) (N0 := N) 8 0 LF N (by omega) (by unfold LF; omega) y8 w2 (fun j hj => by omega) (fun _ _ => rfl) rfl
    obtain ⟨v, r', M2, N2, a1, a2, a3, a4, a5, a6, a7, a8⟩ := l_wan hW.1 (L := tn ((S.1 0) 4)) (by omega) (tn ((S.1 0) 4)) 0 LF i (rs (S.1 0) s).2 M1 N1 (by omega) (by unfold LF; omega) hi rok q4 (by rw [q1 10 (by decide), ← hw4]; exact hM.1.2.1.2.1 4 (by omega)) (by rw [p2 _ (by decide)]; exact hN) hw4 q3 p1
    refine ⟨v, r', M2, N2, a1, ?_, a3, a4, fun c hc => by rw [a5 c hc, q1 c hc], by rw [a6, q2], fun c hc => by rw [a7 c hc, p2 c hc], by rw [a8, p3]⟩
    unfold fX10_goAstray_28
    rw [show fX10_goAstray_35 LF 80 (nI b) (nI i) 0 0 N = _ from e1]
    exact a2
  by_cases ht : tkB (S.1 0) (rs (S.1 0) s).1 (rs (S.1 0) s).2 = true
  · have hw1 : wkI (tkB (S.1 0) (rs (S.1 0) s).1 (rs (S.1 0) s).2) = 1 := by rw [ht]; rfl
    rw [hw1] at hne ⊢
    rw [if_pos rfl, if_neg hne, nI_1]
    obtain ⟨v, r', M', N', a1, a2, a3⟩ := go ((rs (S.1 0) s).1 + 1) (by have := hW.1.2.1.2; omega)
    rw [a1, bI_s]
    exact ⟨v, r', M', N', rfl, a2, a3⟩
  · have hw1 : wkI (tkB (S.1 0) (rs (S.1 0) s).1 (rs (S.1 0) s).2) = 0 := by rw [wkI_0]; simpa using ht
    rw [hw1] at hne ⊢
    have hg1 : gv = 1 := h01.resolve_left hne
    have hgl : glS (S.1 0) (rs (S.1 0) s).1 ≤ 40 := by
      have hop := hW.1.2.2.2.1 _ hc1
      unfold glS
      rw [if_neg (by omega)]
      split
      · rename_i e; have := (hop.2.2.2.2.1 e).2; omega
      · have := (hop.2.2.2.2.2.2 (by omega)).2; omega
    rw [if_neg (fun (z : ((rs (S.1 0) s).1, (0 : Int32), nI s).2.1 = 1) => absurd (show (0 : Int32) = 1 from z) (by decide)), if_pos hg1, tgtX hW.1 q4 hc1 (by omega), bI_s, goalM (o := 80) hW.1 hN hc1 (by omega), bI_s]
    obtain ⟨v, r', M', N', a1, a2, a3⟩ := go (glS (S.1 0) (rs (S.1 0) s).1) hgl
    rw [a1, bI_s]
    exact ⟨v, r', M', N', rfl, a2, a3⟩
theorem wanW (hM : JC S M) (hp : pgS (S.1 0) = true) (hA : AkM (S.1 0) 80 (allS (S.1 0)).length N) (hN : N.1 81 = S.1 0) {b : Nat} (hb : b < (tr (S.1 0) (nS (S.1 0))).length) (hw : wrB M b = true) : ∃ v r' M' N', fX9_wander 0 (nI b) M = some (v, M') ∧ fX10_goAstray 80 (nI b) N = some (v, N') ∧ Reg 38 0 r' M' ∧ Reg 112 0 r' N' ∧ (∀ c, ¬ c = 38 → M'.1 c = M.1 c) ∧ M'.2 = M.2 ∧ (∀ c, ¬ c = 112 → N'.1 c = N.1 c) ∧ N'.2 = N.2 := by
  have hlen : b < (allS (S.1 0)).length := by unfold allS; rw [List.length_append]; omega
  have tw := tw_of hM hA rfl
  have hg : N.1 (80 + 26) b = M.1 40 (9 * b + 2) := rc_ (k := 2) rfl tw hlen (by omega)
  have h01 : M.1 40 (9 * b + 2) = 0 ∨ M.1 40 (9 * b + 2) = 1 := by
    rw [hM.1.2.2.2.2.2 b hlen 2 (by omega) (by omega)]
    exact an_01 _ _ _ _
  have hne : ¬ M.1 40 (9 * b + 2) = M.1 40 (9 * b + 1) := by simpa [wrB] using hw
  exact wanG hM hp hA.1 hN hb hg h01 hne
theorem JC.st (h : JC S M) {M' : Mem} (f : ∀ c, ¬ c = 38 → M'.1 c = M.1 c) (f2 : M'.2 = M.2) : JC S M' :=
  h.sc (fun c x y z w => ⟨f c z, by rw [f2]⟩) (by rw [vX_fr (fun c x y => f c (by omega))]; exact h.2.1.2.2)
theorem FrJ.st {N' : Mem} (f : ∀ c, ¬ c = 112 → N'.1 c = N.1 c) (f2 : N'.2 = N.2) : FrJ N N' := ⟨fun c hc => ⟨f c (by omega), by rw [f2]⟩, by rw [f 80 (by decide)], by rw [f 80 (by decide)], by rw [f 80 (by decide)]⟩
theorem m_strays (x : Int32) : Eq2 S (fX9_strays 0 x) (fX10_strays 80 x) := by
  intro M N hM hN
  have hl := all_len hM.w.1
  have hlt : (tr (S.1 0) (nS (S.1 0))).length ≤ (allS (S.1 0)).length := by unfold allS; rw [List.length_append]; omega
  unfold fX9_strays fX10_strays fX10_isOfRun
  obtain ⟨N1, e1, a1, j1, f1⟩ := hN.asks
  rw [e1, bI_s]
  simp only [Nat.zero_add]
  rw [hM.1.2.2.2.2.1, wX0, bI_s]
  by_cases hp : pgS (S.1 0) = true
  · have ak := a1 hp
    have tw := tw_of hM ak rfl
    rw [wif_t hp, ak.1.2.2.1, wM0, bI_s, isB_wk, ck_t, bI_s]
    by_cases hx : inS x 0 (nI (tr (S.1 0) (nS (S.1 0))).length - 1) = true
    · obtain ⟨b, hb, ex⟩ := in_m (by omega) hx
      subst ex
      rw [wif_t hx, wif_t hx, iwX tw (by omega), bI_s, iwM tw (by omega), bI_s]
      by_cases hw : wrB M b = true
      · obtain ⟨v, r', M', N', c1, c2, c3, c4, c5, c6, c7, c8⟩ := wanW hM hp ak j1.1.2.1 hb hw
        rw [wif_t hw, wif_t hw, c1, bI_s, c2, bI_s]
        exact ⟨v, M', N', S, rfl, rfl, hM.st c5 c6, j1.j (FrJ.st c7 c8) (vM_fr (fun c x y => c7 _ (by omega)) j1.1.2.2), fun c hc => ⟨c5 c (by omega), by rw [c6]⟩, (f1.tr (FrJ.st c7 c8)).rfr⟩
      · rw [wif_f hw, wif_f hw]
        exact ⟨_, M, N1, S, rfl, rfl, hM, j1, FrCl.rf, f1.rfr⟩
    · rw [wif_f hx, wif_f hx]
      exact ⟨_, M, N1, S, rfl, rfl, hM, j1, FrCl.rf, f1.rfr⟩
  · have hp' : pgS (S.1 0) = false := by simpa using hp
    have hx : ¬ inS x 0 (nI 0 - 1) = true := by
      intro z
      obtain ⟨m, hm, -⟩ := in_m (n := 0) (by omega) z
      omega
    rw [wif_f hp, (hM.w.nil hp').2.1, show ([] : T3).length = 0 from rfl, wif_f hx]
    exact ⟨_, M, N1, S, rfl, rfl, hM, j1, FrCl.rf, f1.rfr⟩
theorem m_stray (x y : Int32) : Eq2 S (fX9_stray 0 x y) (fX10_stray 80 x y) := by
  intro M N hM hN
  have hl := all_len hM.w.1
  have hlt : (tr (S.1 0) (nS (S.1 0))).length ≤ (allS (S.1 0)).length := by unfold allS; rw [List.length_append]; omega
  unfold fX9_stray fX10_stray fX10_isOfRun fX9_isRegister
  obtain ⟨N1, e1, a1, j1, f1⟩ := hN.asks
  rw [e1, bI_s]
  simp only [Nat.zero_add]
  rw [hM.1.2.2.2.2.1, wX0, bI_s]
  by_cases hp : pgS (S.1 0) = true
  · have ak := a1 hp
    have tw := tw_of hM ak rfl
    rw [wif_t hp, ak.1.2.2.1, wM0, bI_s, isB_wk, ck_t, bI_s]
    by_cases hx : inS x 0 (nI (tr (S.1 0) (nS (S.1 0))).length - 1) = true
    · obtain ⟨b, hb, ex⟩ := in_m (by omega) hx
      subst ex
      rw [wif_t hx, wif_t hx, wX y 0 7 0 7 rfl rfl, bI_s, isB_wk, ck_t, bI_s, wM y 0 7 0 7 rfl rfl, bI_s]
      by_cases hy : inS y 0 7 = true
      · obtain ⟨k, hk, ek⟩ := in_n (n := 7) (by omega) hy
        subst ek
        rw [wif_t hy, wif_t hy, iwX tw (by omega), bI_s, iwM tw (by omega), bI_s]
        by_cases hw : wrB M b = true
        · obtain ⟨v, r', M', N', c1, c2, c3, c4, c5, c6, c7, c8⟩ := wanW hM hp ak j1.1.2.1 hb hw
          have d3 := c3 k (by omega)
          have d4 := c4 k (by omega)
          rw [Nat.zero_add] at d3 d4
          rw [wif_t hw, wif_t hw, c1, bI_s, c2, bI_s, ib_n (show k < 8 by omega) (by omega), ck_t, ck_t, tn_n (by omega), show M'.1 (35 + 3) k = _ from d3, show N'.1 (80 + 32) k = _ from d4]
          exact ⟨_, M', N', S, rfl, rfl, hM.st c5 c6, j1.j (FrJ.st c7 c8) (vM_fr (fun c x y => c7 _ (by omega)) j1.1.2.2), fun c hc => ⟨c5 c (by omega), by rw [c6]⟩, (f1.tr (FrJ.st c7 c8)).rfr⟩
        · rw [wif_f hw, wif_f hw]
          exact ⟨_, M, N1, S, rfl, rfl, hM, j1, FrCl.rf, f1.rfr⟩
      · rw [wif_f hy, wif_f hy]
        exact ⟨_, M, N1, S, rfl, rfl, hM, j1, FrCl.rf, f1.rfr⟩
    · rw [wif_f hx, wif_f hx]
      exact ⟨_, M, N1, S, rfl, rfl, hM, j1, FrCl.rf, f1.rfr⟩
  · have hp' : pgS (S.1 0) = false := by simpa using hp
    have hx : ¬ inS x 0 (nI 0 - 1) = true := by
      intro z
      obtain ⟨m, hm, -⟩ := in_m (n := 0) (by omega) z
      omega
    rw [wif_f hp, (hM.w.nil hp').2.1, show ([] : T3).length = 0 from rfl, wif_f hx]
    exact ⟨_, M, N1, S, rfl, rfl, hM, j1, FrCl.rf, f1.rfr⟩
end Stray2
