/-! One OP of a program, on the reference's side (its world is the row W at cell o + 1). -/
section OpsM
variable {W : Wd} {o i : Nat} {M : Mem}
theorem n154 (i : Nat) : (15 : Int32) + (4 : Int32) * nI i = nI (15 + 4 * i) := by
  rw [show (4 : Int32) * nI i = nI (4 * i) from pk_mul 4 i]; exact nI_add 15 (4 * i)
theorem n164 (i j : Nat) : (15 : Int32) + (4 : Int32) * nI i + 1 + nI j = nI (16 + 4 * i + j) := by
  rw [n154, show nI (15 + 4 * i) + 1 = nI (15 + 4 * i + 1) from nI_add _ 1, nI_add, show 15 + 4 * i + 1 + j = 16 + 4 * i + j by omega]
theorem isOpM (hW : PgOk W) (h : M.1 (o + 1) = W) (x : Int32) : fX10_isOp o x M = some (if 0 ≤ x ∧ x < nI (nO W) then 1 else 0, M) := by
  unfold fX10_isOp
  rw [show (7 : Int32) = nI 7 from rfl, ib_n (show 7 < 215 by omega) (by omega), ck_t, tn_n (by omega), h, hW.2.1.1, L64_0, in32, bI_s, isB_if, ck_t]
  have e : x ≤ nI (nO W) - 1 ↔ x < nI (nO W) := by
    have := hW.2.1.2
    have e1 : (nI (nO W) - 1).toInt = (nO W : Int) - 1 := by
      have := pk_sub_toInt (a := nO W) (b := 1) (by omega) (by omega)
      exact this
    rw [fa_le, fa_lt, e1, nI_toInt (by omega)]; omega
  simp only [e]
theorem kindM (hW : PgOk W) (h : M.1 (o + 1) = W) (hi : i < nO W) : fX10_kindOf o (nI i) M = some (nI (KK W i), M) := by
  have hO := hW.2.1.2
  unfold fX10_kindOf
  rw [n154, ib_n (show 15 + 4 * i < 215 by omega) (by omega), ck_t, tn_n (by omega), h, (hW.2.2.2.1 i hi).1.1]
theorem numM (hW : PgOk W) (h : M.1 (o + 1) = W) (hi : i < nO W) {j : Nat} (hj : j < 3) : fX10_numberOf o (nI i) (nI j) M = some (W (16 + 4 * i + j), M) := by
  have hO := hW.2.1.2
  unfold fX10_numberOf
  rw [n164, ib_n (show 16 + 4 * i + j < 215 by omega) (by omega), ck_t, tn_n (by omega), h]
theorem nbsM {k : Nat} (hk : k ≤ 10) : fX10_numbersOf (nI k) M = some (nI (if k = 6 ∨ k = 7 then 3 else if k = 9 then 1 else if k = 10 then 0 else 2), M) := by
  unfold fX10_numbersOf
  by_cases h6 : k = 6
  · subst h6; rfl
  · rw [if_neg (show ¬ nI k = (6 : Int32) from kE (n := 6) (by omega) (by omega) h6)]
    by_cases h7 : k = 7
    · subst h7; rfl
    · rw [if_neg (show ¬ nI k = (7 : Int32) from kE (n := 7) (by omega) (by omega) h7), if_neg (show ¬ (k = 6 ∨ k = 7) by omega)]
      by_cases h9 : k = 9
      · subst h9; rfl
      · rw [if_neg (show ¬ nI k = (9 : Int32) from kE (n := 9) (by omega) (by omega) h9), if_neg h9]
        by_cases h10 : k = 10
        · subst h10; rfl
        · rw [if_neg (show ¬ nI k = (10 : Int32) from kE (n := 10) (by omega) (by omega) h10), if_neg h10]; rfl
theorem goalM (hW : PgOk W) (h : M.1 (o + 1) = W) (hi : i < nO W) (hk : 6 ≤ KK W i ∧ KK W i ≤ 9) : fX10_goalOf o (nI i) M = some (nI (glS W i), M) := by
  have hop := hW.2.2.2.1 i hi
  unfold fX10_goalOf glS
  rw [kindM hW h hi, bI_s, nbsM (by omega), bI_s]
  by_cases h9 : KK W i = 9
  · rw [if_neg (show ¬ (KK W i = 6 ∨ KK W i = 7) by omega), if_pos h9, if_pos h9, show nI 1 - 1 = nI 0 from rfl, numM hW h hi (by omega), bI_s, (hop.2.2.2.2.2.1 h9).1]
  · by_cases h8 : KK W i = 8
    · rw [if_neg (show ¬ (KK W i = 6 ∨ KK W i = 7) by omega), if_neg h9, if_neg (show ¬ KK W i = 10 by omega), if_neg h9, if_pos h8, show nI 2 - 1 = nI 1 from rfl, numM hW h hi (by omega), bI_s, (hop.2.2.2.2.1 h8).1]
    · rw [if_pos (show KK W i = 6 ∨ KK W i = 7 by omega), if_neg h9, if_neg h8, show nI 3 - 1 = nI 2 from rfl, numM hW h hi (by omega), bI_s, (hop.2.2.2.2.2.2 (by omega)).1]
theorem brM {k : Nat} (hk : k ≤ 10) : fX10_isBranch (nI k) M = some (wkI (decide (6 ≤ k) && decide (k ≤ 8)), M) := by
  unfold fX10_isBranch
  rw [show (6 : Int64) = (6 : Int32).toInt64 from rfl, show (8 : Int64) = (8 : Int32).toInt64 from rfl, in32, bI_s, isB_if, ck_t]
  by_cases h : 6 ≤ k ∧ k ≤ 8
  · have hc : (6 : Int32) ≤ nI k ∧ nI k ≤ (8 : Int32) := ⟨nI_le (a := 6) h.1 (by omega), nI_le (b := 8) h.2 (by omega)⟩
    rw [if_pos hc]; simp [h, wkI]
  · have hc : ¬ ((6 : Int32) ≤ nI k ∧ nI k ≤ (8 : Int32)) := by
      intro z
      rw [fa_le, fa_le, nI_toInt (by omega), show (6 : Int32).toInt = 6 from rfl, show (8 : Int32).toInt = 8 from rfl] at z
      omega
    rw [if_neg hc]
    have : (decide (6 ≤ k) && decide (k ≤ 8)) = false := by simp; omega
    rw [this]; rfl
theorem tksM (hW : PgOk W) (h : M.1 (o + 1) = W) (hi : i < nO W) (hb : brS W i = true) {f : Nat} {r : Rg} (hf : f + 8 ≤ 1608) (hr : RgOk r) (hR : Reg (o + 7) f r M) : fX10_isTaken o (nI i) (nI f) M = some (wkI (tkB W i r), M) := by
  have hop := hW.2.2.2.1 i hi
  simp only [brS, Bool.and_eq_true, decide_eq_true_eq] at hb
  obtain ⟨n0, l0⟩ := hop.2.1 (by omega)
  unfold fX10_isTaken tkB
  rw [show fX10_numberOf o (nI i) 0 M = _ from numM hW h hi (j := 0) (by omega), bI_s, n0, nI_add, ib_n (show f + NN W i 0 < 1608 by omega) (by omega), ck_t, kindM hW h hi, bI_s, tn_n (show f + NN W i 0 < 2 ^ 31 by omega), hR _ l0]
  have r0 := hr (NN W i 0)
  by_cases h8 : KK W i = 8
  · rw [if_pos (by rw [h8]; rfl), if_pos h8, show irm (nI (r (NN W i 0))) 2 = nI (r (NN W i 0) % 2) from pk_rem (d := 2) (by omega) (by omega) (by omega)]
    by_cases hm : r (NN W i 0) % 2 = 1
    · rw [if_pos (by rw [hm]; rfl)]; simp [hm, wkI]
    · rw [if_neg (show ¬ nI (r (NN W i 0) % 2) = (1 : Int32) from kE (n := 1) (by omega) (by omega) hm)]; simp [hm, wkI]
  · obtain ⟨n1, l1⟩ := hop.2.2.2.1 (by omega) (by omega)
    have r1 := hr (NN W i 1)
    rw [if_neg (show ¬ nI (KK W i) = (8 : Int32) from kE (n := 8) (by omega) (by omega) h8), if_neg h8, show fX10_numberOf o (nI i) 1 M = _ from numM hW h hi (j := 1) (by omega), bI_s, n1, nI_add, ib_n (show f + NN W i 1 < 1608 by omega) (by omega), ck_t, kindM hW h hi, bI_s, tn_n (show f + NN W i 1 < 2 ^ 31 by omega), hR _ l1]
    by_cases h6 : KK W i = 6
    · rw [if_pos (by rw [h6]; rfl), if_pos h6]
      by_cases hm : r (NN W i 0) < r (NN W i 1)
      · rw [if_neg (nI_ge hm (by omega))]; simp [hm, wkI]
      · rw [if_pos (nI_le (by omega) (by omega))]; simp [hm, wkI]
    · rw [if_neg (show ¬ nI (KK W i) = (6 : Int32) from kE (n := 6) (by omega) (by omega) h6), if_neg h6]
      by_cases hm : r (NN W i 0) = r (NN W i 1)
      · rw [if_pos (by rw [hm])]; simp [hm, wkI]
      · rw [if_neg (kE (by omega) (by omega) hm)]; simp [hm, wkI]
theorem obeyM (hW : PgOk W) (hi : i < nO W) (hk : KK W i ≤ 5) {c f n : Nat} {r : Rg} (hkd : (kd c).2 = n) (hn : n < 10000) (hf : f + 8 ≤ n) (hr : RgOk r) (hR : Reg c f r M) : ∃ M', fX10_obey (nI (KK W i)) (W (16 + 4 * i + 0)) (W (16 + 4 * i + 1)) c (nI f) M = some M' ∧ Reg c f (doS W i r) M' ∧ RgCh c f M M' := by
  have hop := hW.2.2.2.1 i hi
  obtain ⟨n0, l0⟩ := hop.2.1 (by omega)
  have r0 := hr (NN W i 0)
  have out : ∀ v : Nat, doS W i r = uN' r (NN W i 0) v → ∃ M', some (pI M c (f + NN W i 0) (nI v)) = some M' ∧ Reg c f (doS W i r) M' ∧ RgCh c f M M' := by
    intro v hv
    obtain ⟨a, b⟩ := reg_put (v := v) hR l0
    exact ⟨_, rfl, by rw [hv]; exact a, b⟩
  unfold fX10_obey fX10_modulo
  simp only [n0, nI_add, hkd, ib_n (show f + NN W i 0 < n by omega) (show n < 2 ^ 31 by omega), tn_n (show f + NN W i 0 < 2 ^ 31 by omega), hR _ l0, ck_t, bI_s]
  by_cases k0 : KK W i = 0
  · rw [if_pos (by rw [k0]; rfl), (hop.2.2.1 (by omega)).1]
    exact out _ (by unfold doS; rw [if_pos k0])
  · rw [if_neg (show ¬ nI (KK W i) = (0 : Int32) from kE (n := 0) (by omega) (by omega) k0)]
    by_cases k1 : KK W i = 1
    · obtain ⟨n1, l1⟩ := hop.2.2.1 (by omega)
      rw [if_pos (by rw [k1]; rfl), n1, mod_a2 r0 l1]
      exact out _ (by unfold doS; rw [if_neg k0, if_pos k1])
    · rw [if_neg (show ¬ nI (KK W i) = (1 : Int32) from kE (n := 1) (by omega) (by omega) k1)]
      by_cases k2 : KK W i = 2
      · obtain ⟨n1, l1⟩ := hop.2.2.1 (by omega)
        rw [if_pos (by rw [k2]; rfl), n1, mod_s r0 l1]
        exact out _ (by unfold doS; rw [if_neg k0, if_neg k1, if_pos k2])
      · rw [if_neg (show ¬ nI (KK W i) = (2 : Int32) from kE (n := 2) (by omega) (by omega) k2)]
        obtain ⟨n1, l1⟩ := hop.2.2.2.1 (by omega) (by omega)
        have r1 := hr (NN W i 1)
        simp only [n1, nI_add, ib_n (show f + NN W i 1 < n by omega) (show n < 2 ^ 31 by omega), tn_n (show f + NN W i 1 < 2 ^ 31 by omega), hR _ l1, ck_t]
        by_cases k3 : KK W i = 3
        · rw [if_pos (by rw [k3]; rfl)]
          exact out _ (by unfold doS; rw [if_neg k0, if_neg k1, if_neg k2, if_pos k3])
        · rw [if_neg (show ¬ nI (KK W i) = (3 : Int32) from kE (n := 3) (by omega) (by omega) k3)]
          by_cases k4 : KK W i = 4
          · rw [if_pos (by rw [k4]; rfl), show irm (nI (r (NN W i 0) + r (NN W i 1)) + 1000) 1000 = nI ((r (NN W i 0) + r (NN W i 1)) % 1000) by rw [← nI_add]; exact mod_a2 r0 r1]
            exact out _ (by unfold doS; rw [if_neg k0, if_neg k1, if_neg k2, if_neg k3, if_pos k4])
          · rw [if_neg (show ¬ nI (KK W i) = (4 : Int32) from kE (n := 4) (by omega) (by omega) k4), mod_s r0 r1]
            exact out _ (by unfold doS; rw [if_neg k0, if_neg k1, if_neg k2, if_neg k3, if_neg k4, if_pos (show KK W i = 5 by omega)])
end OpsM
