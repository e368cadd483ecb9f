/-! Plain rows over the pure memory and the machine's numbers. -/
theorem pI_1 (M : Mem) (c k : Nat) (v : Int32) (a j : Nat) : (pI M c k v).1 a j = if a = c then (if j = k then v else M.1 a j) else M.1 a j := by
  unfold pI upd
  by_cases h : a = c
  · simp [h]
  · simp [h]
theorem pI_2 (M : Mem) (c k : Nat) (v : Int32) : (pI M c k v).2 = M.2 := rfl
theorem pL_1 (M : Mem) (c k : Nat) (v : Int64) : (pL M c k v).1 = M.1 := rfl
theorem pL_2 (M : Mem) (c k : Nat) (v : Int64) (a j : Nat) : (pL M c k v).2 a j = if a = c then (if j = k then v else M.2 a j) else M.2 a j := by
  unfold pL vp_updL
  by_cases h : a = c
  · simp [h]
  · simp [h]
theorem pC_1 (M : Mem) (c0 c1 sp dp n a j : Nat) : (pC M c0 c1 sp dp n).1 a j = if a = c1 then (if dp ≤ j ∧ j < dp + n then M.1 c0 (sp + (j - dp)) else M.1 a j) else M.1 a j := by
  unfold pC va_cpy
  by_cases h : a = c1
  · simp [h]
  · simp [h]
theorem pC_2 (M : Mem) (c0 c1 sp dp n : Nat) : (pC M c0 c1 sp dp n).2 = M.2 := rfl
theorem ck_t {α : Type} (x : Option α) : ck true x = x := rfl
theorem bV_s {β : Type} (M : Mem) (f : Mem → Option β) : bV (some M) f = f M := rfl
theorem bI_s {β : Type} (v : Int32) (M : Mem) (f : Int32 → Mem → Option β) : bI (some (v, M)) f = f v M := rfl
theorem bL_s {β : Type} (v : Int64) (M : Mem) (f : Int64 → Mem → Option β) : bL (some (v, M)) f = f v M := rfl
theorem bS_s {β : Type} (v : Nat) (M : Mem) (f : Nat → Mem → Option β) : bS (some (v, M)) f = f v M := rfl
-- numbers (families of the kit's laws, turned)
theorem fa_lt (a b : Int32) : a < b ↔ a.toInt < b.toInt := Int32.lt_iff_toInt_lt
theorem fa_le (a b : Int32) : a ≤ b ↔ a.toInt ≤ b.toInt := Int32.le_iff_toInt_le
theorem fa_eq (a b : Int32) : a = b ↔ a.toInt = b.toInt := Int32.toInt_inj.symm
theorem fa_lt64 (a b : Int64) : a < b ↔ a.toInt < b.toInt := Int64.lt_iff_toInt_lt
theorem fa_le64 (a b : Int64) : a ≤ b ↔ a.toInt ≤ b.toInt := Int64.le_iff_toInt_le
theorem fa_wide_lt (a b : Int32) : a.toInt64 < b.toInt64 ↔ a < b := by rw [fa_lt64, fa_lt, Int32.toInt_toInt64, Int32.toInt_toInt64]
theorem fa_wide_le (a b : Int32) : a.toInt64 ≤ b.toInt64 ↔ a ≤ b := by rw [fa_le64, fa_le, Int32.toInt_toInt64, Int32.toInt_toInt64]
theorem li32 (n : Nat) : (OfNat.ofNat n : Int32) = nI n := rfl
theorem li64 (n : Nat) : (OfNat.ofNat n : Int64) = lN n := rfl
theorem ib_n {n N : Nat} (h : n < N) (hN : N < 2 ^ 31) : ib (nI n) N = true := by
  simp only [ib, Bool.and_eq_true, Bool.not_eq_true', decide_eq_false_iff_not, decide_eq_true_eq]
  exact ⟨nI_pos (by omega), by rw [nI_clamp (by omega)]; exact h⟩
theorem tn_n {n : Nat} (h : n < 2 ^ 31) : tn (nI n) = n := nI_clamp h
theorem ib_e {i : Int32} {N : Nat} (h0 : 0 ≤ i.toInt) (h1 : i.toInt < N) (hN : N < 2 ^ 31) : ∃ n : Nat, n < N ∧ i = nI n ∧ ib i N = true ∧ tn i = n := by
  obtain ⟨j, hj, rfl⟩ := vp_in_of (vp_in_iff.mpr ⟨h0, h1⟩) hN
  exact ⟨j, hj, rfl, ib_n hj hN, tn_n (by omega)⟩
theorem of_rng {x : Int32} {n : Nat} (h0 : 0 ≤ x.toInt) (h1 : x.toInt ≤ n) (hn : n + 1 < 2 ^ 31) : ∃ j : Nat, j ≤ n ∧ x = nI j := by
  obtain ⟨j, hj, e⟩ := vp_in_of (vp_in_iff.mpr ⟨h0, show x.toInt < ((n + 1 : Nat) : Int) by omega⟩) (by omega)
  exact ⟨j, by omega, e⟩
theorem lN_bv' (n : Nat) : (lN n).toBitVec = BitVec.ofNat 64 n := rfl
theorem nI_bv (n : Nat) : (nI n).toBitVec = BitVec.ofNat 32 n := rfl
theorem i64_ext {a b : Int64} (h : a.toBitVec = b.toBitVec) : a = b := Int64.toBitVec_inj.mp h
theorem i32_ext {a b : Int32} (h : a.toBitVec = b.toBitVec) : a = b := Int32.toBitVec_inj.mp h
theorem lN_of (x : Int64) : ∃ n : Nat, n < 2 ^ 64 ∧ x = lN n := ⟨x.toBitVec.toNat, x.toBitVec.isLt, i64_ext (by rw [lN_bv', BitVec.ofNat_toNat, BitVec.setWidth_eq])⟩
theorem lN_xor' (a b : Nat) : lN a ^^^ lN b = lN (a ^^^ b) := i64_ext (by rw [Int64.toBitVec_xor, lN_bv', lN_bv', lN_bv', BitVec.ofNat_xor])
theorem lN_and' (a b : Nat) : lN a &&& lN b = lN (a &&& b) := i64_ext (by rw [Int64.toBitVec_and, lN_bv', lN_bv', lN_bv', BitVec.ofNat_and])
theorem lN_or' (a b : Nat) : lN a ||| lN b = lN (a ||| b) := i64_ext (by rw [Int64.toBitVec_or, lN_bv', lN_bv', lN_bv', BitVec.ofNat_or])
theorem nI_xor' (a b : Nat) : nI a ^^^ nI b = nI (a ^^^ b) := i32_ext (by rw [Int32.toBitVec_xor, nI_bv, nI_bv, nI_bv, BitVec.ofNat_xor])
theorem nI_and' (a b : Nat) : nI a &&& nI b = nI (a &&& b) := i32_ext (by rw [Int32.toBitVec_and, nI_bv, nI_bv, nI_bv, BitVec.ofNat_and])
theorem nI_or' (a b : Nat) : nI a ||| nI b = nI (a ||| b) := i32_ext (by rw [Int32.toBitVec_or, nI_bv, nI_bv, nI_bv, BitVec.ofNat_or])
theorem lN_mask {n k : Nat} : lN n &&& lN (2 ^ k - 1) = lN (n % 2 ^ k) := by rw [lN_and', Nat.and_two_pow_sub_one_eq_mod]
theorem nI_mask {n k : Nat} : nI n &&& nI (2 ^ k - 1) = nI (n % 2 ^ k) := by rw [nI_and', Nat.and_two_pow_sub_one_eq_mod]
theorem sh63 : ∀ k, k < 64 → ((nI k).toInt64 &&& 63) = lN k := by decide +kernel
theorem sh63u : ∀ k, k < 64 → ((nI k).toInt64.toUInt64 &&& Int64.toUInt64 63) = UInt64.ofNat k := by decide +kernel
theorem sh31 : ∀ k, k < 32 → (nI k &&& 31) = nI k := by decide +kernel
theorem sm64 : ∀ k, k < 64 → ((lN k).toBitVec.smod 64).toNat = k := by decide +kernel
theorem sm32 : ∀ k, k < 32 → ((nI k).toBitVec.smod 32).toNat = k := by decide +kernel
theorem shl64 : ∀ k, k < 63 → ((1 : Int64) <<< ((nI k).toInt64 &&& 63)) - 1 = lN (2 ^ k - 1) := by decide +kernel
theorem shl32 : ∀ k, k < 31 → ((1 : Int32) <<< (nI k &&& 31)) = nI (2 ^ k) := by decide +kernel
theorem ushr64 {n k : Nat} (hn : n < 2 ^ 64) (hk : k < 64) : ((lN n).toUInt64 >>> ((nI k).toInt64.toUInt64 &&& Int64.toUInt64 63)).toInt64 = lN (n / 2 ^ k) := by
  rw [sh63u k hk]
  apply i64_ext
  show ((lN n).toUInt64 >>> UInt64.ofNat k).toBitVec = BitVec.ofNat 64 (n / 2 ^ k)
  apply BitVec.eq_of_toNat_eq
  have e1 : (UInt64.ofNat k).toNat = k := by rw [UInt64.toNat_ofNat']; omega
  have e2 : ((lN n).toUInt64).toNat = n := by
    show (BitVec.ofNat 64 n).toNat = n
    rw [BitVec.toNat_ofNat]; omega
  rw [UInt64.toNat_toBitVec, UInt64.toNat_shiftRight, e1, e2, BitVec.toNat_ofNat, Nat.mod_eq_of_lt hk, Nat.shiftRight_eq_div_pow]
  exact (Nat.mod_eq_of_lt (Nat.lt_of_le_of_lt (Nat.div_le_self _ _) hn)).symm
theorem sshr64 {n k : Nat} (hn : n < 2 ^ 62) (hk : k < 64) : (lN n) >>> ((nI k).toInt64 &&& 63) = lN (n / 2 ^ k) := by
  rw [sh63 k hk]
  have e1 : (lN n).toInt = (n : Int) := pk_lT (by omega)
  have e2 : (lN (n / 2 ^ k)).toInt = ((n / 2 ^ k : Nat) : Int) := pk_lT (Nat.lt_of_le_of_lt (Nat.div_le_self _ _) (by omega))
  apply Int64.toInt_inj.mp
  rw [e2]
  show (BitVec.sshiftRight (lN n).toBitVec ((lN k).toBitVec.smod 64).toNat).toInt = _
  rw [sm64 k hk, BitVec.toInt_sshiftRight]
  show (lN n).toInt >>> k = _
  rw [e1, Int.shiftRight_eq_div_pow]
  simp
