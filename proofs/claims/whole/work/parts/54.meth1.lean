/-! Public methods, both sides: end, fault, op, steps, why, next, register, branch. -/
def inS (x y z : Int32) : Bool := decide (y ≤ x ∧ x ≤ z)
theorem if_wk (c : Prop) [Decidable c] : (if c then (1 : Int32) else 0) = wkI (decide c) := by
  by_cases h : c <;> simp [h, wkI]
theorem wX (x : Int32) (a b : Int64) (y z : Int32) (ha : a = y.toInt64) (hb : b = z.toInt64) (M : Mem) : fX9_within x.toInt64 a b M = some (wkI (inS x y z), M) := by
  rw [ha, hb, wi32]; unfold inS; rw [if_wk]
theorem wM (x : Int32) (a b : Int64) (y z : Int32) (ha : a = y.toInt64) (hb : b = z.toInt64) (M : Mem) : fX10_in x.toInt64 a b M = some (wkI (inS x y z), M) := by
  rw [ha, hb, in32]; unfold inS; rw [if_wk]
theorem wX0 (x z : Int32) (M : Mem) : fX9_within x.toInt64 0 z.toInt64 M = some (wkI (inS x 0 z), M) := wX x 0 _ 0 z rfl rfl M
theorem wM0 (x z : Int32) (M : Mem) : fX10_in x.toInt64 0 z.toInt64 M = some (wkI (inS x 0 z), M) := wM x 0 _ 0 z rfl rfl M
theorem wif_t {α : Type} {b : Bool} {x y : α} (h : b = true) : (if wkI b = 0 then x else y) = y := by rw [h]; rfl
theorem wif_f {α : Type} {b : Bool} {x y : α} (h : ¬ b = true) : (if wkI b = 0 then x else y) = x := by
  have : b = false := by simpa using h
  rw [this]; rfl
theorem in_n {x : Int32} {n : Nat} (hn : n < 2 ^ 31) (h : inS x 0 (nI n) = true) : ∃ m, m ≤ n ∧ x = nI m := by
  simp only [inS, decide_eq_true_eq] at h
  obtain ⟨h1, h2⟩ := h
  rw [fa_le, show (0 : Int32).toInt = 0 from rfl] at h1
  rw [fa_le, nI_toInt hn] at h2
  refine ⟨x.toInt.toNat, by omega, ?_⟩
  apply Int32.toInt_inj.mp
  rw [nI_toInt (by omega)]; omega
theorem in_m {x : Int32} {n : Nat} (hn : n < 2 ^ 30) (h : inS x 0 (nI n - 1) = true) : ∃ m, m < n ∧ x = nI m := by
  simp only [inS, decide_eq_true_eq] at h
  obtain ⟨h1, h2⟩ := h
  have e1 : (nI n - 1).toInt = (n : Int) - 1 := by
    have := pk_sub_toInt (a := n) (b := 1) (by omega) (by omega)
    exact this
  rw [fa_le, show (0 : Int32).toInt = 0 from rfl] at h1
  rw [fa_le, e1] at h2
  refine ⟨x.toInt.toNat, by omega, ?_⟩
  apply Int32.toInt_inj.mp
  rw [nI_toInt (by omega)]; omega
section Meth1
variable {S : St} {M N : Mem}
theorem JC.w (h : JC S M) : WOk (S.1 0) := h.1.1.1 0 (by omega)
theorem JR.w (h : JR S N) : WOk (S.1 0) := h.1.1.1 0 (by omega)
theorem toldX (h : JC S M) : fX9_isTold 0 M = some (wkI (pgS (S.1 0)), M) := by
  unfold fX9_isTold pgS
  simp only [Nat.zero_add]
  rw [h.1.2.1.1.1]
  by_cases hc : (S.1 0) 9 ≤ 0
  · have h2 : ¬ 0 < (S.1 0) 9 := by rw [fa_le] at hc; rw [fa_lt]; omega
    rw [if_pos hc]; simp [h2, wkI]
  · have h2 : 0 < (S.1 0) 9 := by rw [fa_le] at hc; rw [fa_lt]; omega
    rw [if_neg hc]; simp [h2, wkI]
theorem JR.lays (h : JR S N) : ∃ N', fX10_lays 80 N = some (wkI (pgS (S.1 0)), N') ∧ LyM (S.1 0) 80 N' ∧ JR S N' ∧ FrJ N N' := by
  obtain ⟨N1, e1, l1, k1, f1, c1, o1, m1⟩ := laysM (o := 80) h.w.1 rfl h.1.2.1
  have z1 : GZ (vM 80 N1) := by rw [vM_mv c1 o1]; exact h.1.2.2
  exact ⟨N1, e1, l1, h.j f1.j z1, f1.j⟩
theorem JR.asks (h : JR S N) : ∃ N', fX10_asks 80 N = some (wkI (pgS (S.1 0)), N') ∧ (pgS (S.1 0) = true → AkM (S.1 0) 80 (allS (S.1 0)).length N') ∧ JR S N' ∧ FrJ N N' := by
  obtain ⟨N1, e1, a1, z1, f1⟩ := asksM (o := 80) h.w.1 h.w.2.1 rfl h.1.2.1 h.1.2.2
  exact ⟨N1, e1, a1, h.j f1.j z1, f1.j⟩
theorem JR.asksAt (h : JR S N) (x : Int32) : ∃ N', fX10_asksAt 80 x N = some (wkI (pgS (S.1 0) && inS x 0 (nI (allS (S.1 0)).length)), N') ∧ (pgS (S.1 0) = true → ∀ m, x = nI m → m ≤ (allS (S.1 0)).length → AkM (S.1 0) 80 m N') ∧ JR S N' ∧ FrJ N N' := by
  obtain ⟨N1, e1, a1, z1, f1⟩ := asksAtM (o := 80) h.w.1 h.w.2.1 rfl h.1.2.1 h.1.2.2 x
  exact ⟨N1, e1, a1, h.j f1.j z1, f1.j⟩
-- both sides answer, the state stays
theorem eq2_c {fc fr : Mem → Option (Int32 × Mem)} (hC : ∀ M N, JC S M → JR S N → ∃ v N', fc M = some (v, M) ∧ fr N = some (v, N') ∧ JR S N' ∧ FrJ N N') : Eq2 S fc fr := by
  intro M N hM hN
  obtain ⟨v, N', e1, e2, j, f⟩ := hC M N hM hN
  exact ⟨v, M, N', S, e1, e2, hM, j, FrCl.rf, f.rfr⟩
theorem SOk.sz {x : Int32} (h : SOk S) (hx : inS x 0 (S.1 6 0) = true) : SOk (fun i k => if i = 6 ∧ k = 0 then x else S.1 i k, S.2) := by
  obtain ⟨a, ⟨n, hn, en⟩, c⟩ := h
  rw [en] at hx
  obtain ⟨m, hm, em⟩ := in_n (by omega) hx
  refine ⟨fun i hi => ?_, ⟨m, by omega, ?_⟩, fun i hi => ?_⟩
  · have : (fun k => if i = 6 ∧ k = 0 then x else S.1 i k) = S.1 i := by
      funext k; rw [if_neg (by omega)]
    show WOk (fun k => if i = 6 ∧ k = 0 then x else S.1 i k)
    rw [this]; exact a i hi
  · show (if (6 = 6 ∧ 0 = 0) then x else S.1 6 0) = nI m
    rw [if_pos ⟨rfl, rfl⟩]; exact em
  · show ((if 7 = 6 ∧ i = 0 then x else S.1 7 i) = -1 ∨ ∃ n, n ≤ 60 ∧ (if 7 = 6 ∧ i = 0 then x else S.1 7 i) = nI n) ∧ ((if 8 = 6 ∧ i = 0 then x else S.1 8 i) = 0 ∨ (if 8 = 6 ∧ i = 0 then x else S.1 8 i) = 1)
    rw [if_neg (by omega), if_neg (by omega)]; exact c i hi
theorem m_fault (x : Int32) : Eq2 S (fX9_fault 0 x) (fX10_fault 80 x) := by
  apply eq2_c
  intro M N hM hN
  unfold fX9_fault fX10_fault
  simp only [Nat.zero_add]
  rw [hM.2.2.2.2.1.2.1, hM.2.2.2.2.1.2.2, hN.2.2.2.1.2.1, hN.2.2.2.1.2.2]
  by_cases h0 : x = 0
  · exact ⟨_, N, if_pos h0, if_pos h0, hN, FrJ.rf⟩
  · rw [if_neg h0, if_neg h0]
    by_cases h1 : x = 1
    · exact ⟨_, N, if_pos h1, if_pos h1, hN, FrJ.rf⟩
    · exact ⟨_, N, if_neg h1, if_neg h1, hN, FrJ.rf⟩
theorem m_op (x y : Int32) : Eq2 S (fX9_op 0 x y) (fX10_op 80 x y) := by
  apply eq2_c
  intro M N hM hN
  have hW := hM.w.1
  have hO := hW.2.1.2
  unfold fX9_op fX10_op
  simp only [Nat.zero_add]
  rw [hasOpX hW hM.1.2.1.2.2.2.1, bI_s, isOpM (o := 80) hW hN.1.2.1, bI_s, if_wk]
  by_cases hc : (0 : Int32) ≤ x ∧ x < nI (nO (S.1 0))
  · rw [wif_t (by simpa using hc), wif_t (by simpa using hc), wX y 0 3 0 3 rfl rfl, bI_s, wM y 0 3 0 3 rfl rfl, bI_s]
    obtain ⟨i, hi, ex⟩ : ∃ i, i < nO (S.1 0) ∧ x = nI i := by
      obtain ⟨h1, h2⟩ := hc
      rw [fa_le, show (0 : Int32).toInt = 0 from rfl] at h1
      rw [fa_lt, nI_toInt (by omega)] at h2
      refine ⟨x.toInt.toNat, by omega, ?_⟩
      apply Int32.toInt_inj.mp
      rw [nI_toInt (by omega)]; omega
    subst ex
    by_cases hy : inS y 0 3 = true
    · obtain ⟨j, hj, ey⟩ := in_n (n := 3) (by omega) hy
      subst ey
      rw [wif_t hy, wif_t hy]
      by_cases h0 : j = 0
      · subst h0
        rw [if_pos (show nI 0 = (0 : Int32) from rfl), if_pos (show nI 0 = (0 : Int32) from rfl), ib_n (show i < 40 by omega) (by omega), ck_t, tn_n (by omega), kindM (o := 80) hW hN.1.2.1 hi, bI_s, show M.1 (9 + 3) i = _ from hM.1.2.1.2.2.2.1.2.1 i hi, (hW.2.2.2.1 i hi).1.1]
        exact ⟨_, N, rfl, rfl, hN, FrJ.rf⟩
      · have e1 : nI j - 1 = nI (j - 1) := pk_sub (b := 1) (by omega)
        rw [if_neg (show ¬ nI j = (0 : Int32) from kE (n := 0) (by omega) (by omega) h0), if_neg (show ¬ nI j = (0 : Int32) from kE (n := 0) (by omega) (by omega) h0), e1, numM (o := 80) hW hN.1.2.1 hi (show j - 1 < 3 by omega), bI_s, n3, nI_add, show nI (3 * i + j) - 1 = nI (3 * i + j - 1) from pk_sub (b := 1) (by omega), show 3 * i + j - 1 = 3 * i + (j - 1) by omega, ib_n (show 3 * i + (j - 1) < 120 by omega) (by omega), ck_t, tn_n (by omega), show M.1 (9 + 4) (3 * i + (j - 1)) = _ from hM.1.2.1.2.2.2.1.2.2 i (j - 1) hi (by omega)]
        exact ⟨_, N, rfl, rfl, hN, FrJ.rf⟩
    · rw [wif_f hy, wif_f hy]
      exact ⟨_, N, rfl, rfl, hN, FrJ.rf⟩
  · rw [wif_f (by simpa using hc), wif_f (by simpa using hc)]
    exact ⟨_, N, rfl, rfl, hN, FrJ.rf⟩
theorem m_steps : Eq2 S (fX9_steps 0) (fX10_steps 80) := by
  apply eq2_c
  intro M N hM hN
  unfold fX9_steps fX10_steps
  obtain ⟨N1, e1, l1, j1, f1⟩ := hN.lays
  rw [toldX hM, bI_s, e1, bI_s]
  simp only [Nat.zero_add]
  by_cases hp : pgS (S.1 0) = true
  · rw [wif_t hp, wif_t hp, (hM.1.2.2.1 hp).1.1, l1.1]
    exact ⟨_, N1, rfl, rfl, j1, f1⟩
  · rw [wif_f hp, wif_f hp]
    exact ⟨_, N1, rfl, rfl, j1, f1⟩
theorem m_why : Eq2 S (fX9_why 0) (fX10_why 80) := by
  apply eq2_c
  intro M N hM hN
  unfold fX9_why fX10_why
  obtain ⟨N1, e1, l1, j1, f1⟩ := hN.lays
  rw [toldX hM, bI_s, e1, bI_s]
  simp only [Nat.zero_add]
  by_cases hp : pgS (S.1 0) = true
  · rw [wif_t hp, wif_t hp, (hM.1.2.2.1 hp).1.2.1, l1.2.1]
    exact ⟨_, N1, rfl, rfl, j1, f1⟩
  · rw [wif_f hp, wif_f hp]
    exact ⟨_, N1, rfl, rfl, j1, f1⟩
theorem stepX' (hM : JC S M) (x : Int32) : fX9_isStep 0 x M = some (wkI (pgS (S.1 0) && inS x 0 (nI (nS (S.1 0)))), M) := by
  unfold fX9_isStep
  rw [toldX hM, bI_s]
  simp only [Nat.zero_add]
  by_cases hp : pgS (S.1 0) = true
  · rw [wif_t hp, (hM.1.2.2.1 hp).1.1, wX0 x, bI_s, hp]
    by_cases hx : inS x 0 (nI (nS (S.1 0))) = true
    · rw [wif_t hx, hx]; rfl
    · rw [wif_f hx]; simp [hx, wkI]
  · rw [wif_f hp]; simp [hp, wkI]
theorem m_next (x : Int32) : Eq2 S (fX9_next 0 x) (fX10_next 80 x) := by
  apply eq2_c
  intro M N hM hN
  unfold fX9_next fX10_next
  obtain ⟨N1, e1, l1, j1, f1⟩ := hN.lays
  have hn := (nS_ok (S.1 0)).2.1
  rw [stepX' hM, bI_s, e1, bI_s]
  simp only [Nat.zero_add]
  by_cases hp : pgS (S.1 0) = true
  · rw [wif_t hp, l1.1, wM0 x, bI_s, hp, Bool.true_and]
    by_cases hx : inS x 0 (nI (nS (S.1 0))) = true
    · obtain ⟨m, hm, ex⟩ := in_n (by omega) hx
      rw [wif_t hx, wif_t hx, ex, ib_n (show m < 201 by omega) (by omega), ck_t, ck_t, tn_n (by omega), show M.1 (35 + 1) m = _ from ((hM.1.2.2.1 hp).1.2.2 m hm).1, (l1.2.2.2.1 m hm).1]
      exact ⟨_, N1, rfl, rfl, j1, f1⟩
    · rw [wif_f hx, wif_f hx]
      exact ⟨_, N1, rfl, rfl, j1, f1⟩
  · rw [wif_f hp, wif_f (by simp [hp])]
    exact ⟨_, N1, rfl, rfl, j1, f1⟩
theorem m_register (x y : Int32) : Eq2 S (fX9_register 0 x y) (fX10_register 80 x y) := by
  apply eq2_c
  intro M N hM hN
  unfold fX9_register fX10_register fX9_isRegister
  obtain ⟨N1, e1, l1, j1, f1⟩ := hN.lays
  have hn := (nS_ok (S.1 0)).2.1
  rw [stepX' hM, bI_s, e1, bI_s]
  simp only [Nat.zero_add]
  by_cases hp : pgS (S.1 0) = true
  · rw [wif_t hp, l1.1, wM0 y, bI_s, hp, Bool.true_and]
    by_cases hx : inS y 0 (nI (nS (S.1 0))) = true
    · obtain ⟨m, hm, ex⟩ := in_n (by omega) hx
      rw [wif_t hx, wif_t hx, wX x 0 7 0 7 rfl rfl, bI_s, isB_wk, ck_t, bI_s, wM x 0 7 0 7 rfl rfl, bI_s]
      by_cases hr : inS x 0 7 = true
      · obtain ⟨k, hk, ek⟩ := in_n (n := 7) (by omega) hr
        rw [wif_t hr, wif_t hr, ex, ek, show (8 : Int32) * nI m = nI (8 * m) from pk_mul 8 m, nI_add, ib_n (show 8 * m + k < 1608 by omega) (by omega), ck_t, ck_t, tn_n (by omega), show M.1 (35 + 2) (8 * m + k) = _ from ((hM.1.2.2.1 hp).1.2.2 m hm).2 k (by omega), (l1.2.2.2.1 m hm).2 k (by omega)]
        exact ⟨_, N1, rfl, rfl, j1, f1⟩
      · rw [wif_f hr, wif_f hr]
        exact ⟨_, N1, rfl, rfl, j1, f1⟩
    · rw [wif_f hx, wif_f hx]
      exact ⟨_, N1, rfl, rfl, j1, f1⟩
  · rw [wif_f hp, wif_f (by simp [hp])]
    exact ⟨_, N1, rfl, rfl, j1, f1⟩
-- the trail, side by side
def rcl (k : Nat) : Nat := if k = 0 then 89 else if k = 1 then 90 else if k = 8 then 91 else 104 + k
def TW (n : Nat) (M N : Mem) : Prop := n ≤ 240 ∧ M.1 39 1 = nI n ∧ N.1 80 23 = nI n ∧ ∀ b, b < n → ∀ k, k < 9 → N.1 (rcl k) b = M.1 40 (9 * b + k)
theorem tw_of (hM : JC S M) {m : Nat} (hA : AkM (S.1 0) 80 m N) (hm : m = (allS (S.1 0)).length) : TW (allS (S.1 0)).length M N := by
  subst hm
  refine ⟨all_len hM.w.1, hM.1.2.2.2.1.1, hA.1.2.2.2.2.1, fun b hb k hk => ?_⟩
  obtain ⟨x, hx⟩ : ∃ x, (allS (S.1 0))[b]? = some x := ⟨(allS (S.1 0))[b], List.getElem?_eq_getElem hb⟩
  obtain ⟨x0, x1, x8⟩ := hM.1.2.2.2.1.2 b x hx
  obtain ⟨y0, y1, y8⟩ := hA.1.2.2.2.2.2 b x hx
  by_cases k0 : k = 0
  · subst k0; exact y0.trans x0.symm
  · by_cases k1 : k = 1
    · subst k1; exact y1.trans x1.symm
    · by_cases k8 : k = 8
      · subst k8; exact y8.trans x8.symm
      · unfold rcl
        rw [if_neg k0, if_neg k1, if_neg k8, hM.1.2.2.2.2.2 b hb k (by omega) (by omega), show 104 + k = 80 + 24 + k by omega]
        exact hA.2.2.2 b hb k (by omega) (by omega)
theorem m_branch (x y : Int32) : Eq2 S (fX9_branch 0 x y) (fX10_branch 80 x y) := by
  apply eq2_c
  intro M N hM hN
  unfold fX9_branch fX10_branch fX9_isBranch
  obtain ⟨N1, e1, a1, j1, f1⟩ := hN.asks
  have hl := all_len hM.w.1
  rw [e1, bI_s]
  simp only [Nat.zero_add]
  rw [hM.1.2.2.2.1.1, wX0 x, bI_s, isB_wk, ck_t, bI_s]
  by_cases hp : pgS (S.1 0) = true
  · obtain ⟨-, t1, t2, t3⟩ := tw_of hM (a1 hp) rfl
    rw [wif_t hp, t2, wM0 x, bI_s]
    by_cases hx : inS x 0 (nI (allS (S.1 0)).length - 1) = true
    · obtain ⟨b, hb, ex⟩ := in_m (by omega) hx
      rw [wif_t hx, wif_t hx, wX y 0 8 0 8 rfl rfl, bI_s]
      subst ex
      by_cases hy : inS y 0 8 = true
      · obtain ⟨k, hk, ek⟩ := in_n (n := 8) (by omega) hy
        subst ek
        rw [wif_t hy, factX (by omega) (by omega), bI_s, ib_n (show b < 240 by omega) (by omega)]
        simp only [ck_t, tn_n (show b < 2 ^ 31 by omega)]
        refine ⟨_, N1, rfl, ?_, j1, f1⟩
        have := t3 b hb k (by omega)
        rw [← this]
        have : k = 0 ∨ k = 1 ∨ k = 2 ∨ k = 3 ∨ k = 4 ∨ k = 5 ∨ k = 6 ∨ k = 7 ∨ k = 8 := by omega
        rcases this with rfl | rfl | rfl | rfl | rfl | rfl | rfl | rfl | rfl <;> rfl
      · rw [wif_f hy]
        have hne : ∀ k : Nat, k ≤ 8 → ¬ y = nI k := by
          intro k hk e
          apply hy
          unfold inS
          rw [e]
          simp only [decide_eq_true_eq]
          exact ⟨nI_pos' (by omega), nI_le (b := 8) hk (by omega)⟩
        rw [if_neg (show ¬ y = (0 : Int32) from hne 0 (by omega)), if_neg (show ¬ y = (1 : Int32) from hne 1 (by omega)), if_neg (show ¬ y = (2 : Int32) from hne 2 (by omega)), if_neg (show ¬ y = (3 : Int32) from hne 3 (by omega)), if_neg (show ¬ y = (4 : Int32) from hne 4 (by omega)), if_neg (show ¬ y = (5 : Int32) from hne 5 (by omega)), if_neg (show ¬ y = (6 : Int32) from hne 6 (by omega)), if_neg (show ¬ y = (7 : Int32) from hne 7 (by omega)), if_neg (show ¬ y = (8 : Int32) from hne 8 (by omega))]
        exact ⟨_, N1, rfl, rfl, j1, f1⟩
    · rw [wif_f hx, wif_f hx]
      exact ⟨_, N1, rfl, rfl, j1, f1⟩
  · have hp' : pgS (S.1 0) = false := by simpa using hp
    rw [wif_f hp, (hM.w.nil hp').2.2]
    have hx : ¬ inS x 0 (nI 0 - 1) = true := by
      intro z
      obtain ⟨m, hm, -⟩ := in_m (n := 0) (by omega) z
      omega
    rw [show ([] : T3).length = 0 from rfl, wif_f hx]
    exact ⟨_, N1, rfl, rfl, j1, f1⟩
end Meth1
