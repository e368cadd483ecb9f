/-! FOLD: the class's halving and the reference's bit by bit are one number. -/
def xr (f : Nat → Bool) : Nat → Bool
  | 0 => false
  | i + 1 => xr f i ^^ f i
def FD (p n : Nat) : Nat → Nat
  | 0 => 0
  | i + 1 => FD p n i ^^^ (if p.testBit i then 2 ^ (i % n) else 0)
theorem xr_congr {f g : Nat → Bool} {s : Nat} (h : ∀ i, i < s → f i = g i) : xr f s = xr g s := by
  induction s with
  | zero => rfl
  | succ s ih => rw [xr, xr, ih (fun i hi => h i (by omega)), h s (by omega)]
theorem xr_xor (f g : Nat → Bool) (s : Nat) : xr (fun i => f i ^^ g i) s = (xr f s ^^ xr g s) := by
  induction s with
  | zero => rfl
  | succ s ih =>
    rw [xr, xr, xr, ih]
    cases xr f s <;> cases xr g s <;> cases f s <;> cases g s <;> rfl
theorem xr_one (f : Nat → Bool) (j s : Nat) : xr (fun i => f i && (i == j)) s = (decide (j < s) && f j) := by
  induction s with
  | zero => simp [xr]
  | succ s ih =>
    rw [xr, ih]
    by_cases h1 : s = j
    · subst h1; simp
    · have : (s == j) = false := by simp [h1]
      rw [this]
      by_cases h2 : j < s
      · simp [h2, show j < s + 1 by omega]
      · simp [h2, show ¬ j < s + 1 by omega]
theorem FD_bit (p n s j : Nat) : (FD p n s).testBit j = xr (fun i => p.testBit i && (i % n == j)) s := by
  induction s with
  | zero => simp [FD, xr]
  | succ s ih =>
    rw [FD, Nat.testBit_xor, ih, xr]
    by_cases h : p.testBit s
    · simp only [h, if_true, Nat.testBit_two_pow, Bool.true_and]
      congr 1
    · simp only [Bool.not_eq_true] at h
      simp [h]
theorem FD_lt (p : Nat) {n : Nat} (hn : 0 < n) (s : Nat) : FD p n s < 2 ^ n := by
  induction s with
  | zero => simp [FD]; exact Nat.two_pow_pos n
  | succ s ih =>
    rw [FD]
    apply Nat.xor_lt_two_pow ih
    split
    · exact Nat.pow_lt_pow_right (by omega) (Nat.mod_lt _ hn)
    · exact Nat.two_pow_pos n
theorem FD_mod (p n : Nat) {s m : Nat} (h : s ≤ m) : FD (p % 2 ^ m) n s = FD p n s := by
  induction s with
  | zero => rfl
  | succ s ih =>
    rw [FD, FD, ih (by omega), Nat.testBit_mod_two_pow]
    simp [show s < m by omega]
def phi (p s w j : Nat) : Bool := xr (fun i => p.testBit i && (i % w == j)) s
theorem phi_half {p s w j : Nat} (hj : j < w) : phi p s w j = (phi p s (2 * w) j ^^ phi p s (2 * w) (j + w)) := by
  unfold phi
  rw [← xr_xor]
  apply xr_congr
  intro i _
  cases p.testBit i with
  | false => rfl
  | true =>
    simp only [Bool.true_and]
    have h1 : i % (2 * w) % w = i % w := Nat.mod_mod_of_dvd i ⟨2, by omega⟩
    have h2 : i % (2 * w) < 2 * w := Nat.mod_lt _ (by omega)
    generalize i % (2 * w) = r at *
    rw [← h1]
    by_cases h3 : r < w
    · rw [Nat.mod_eq_of_lt h3]
      have e : (r == j + w) = false := by simp; omega
      rw [e]; simp
    · have e1 : r % w = r - w := by rw [Nat.mod_eq_sub_mod (by omega), Nat.mod_eq_of_lt (by omega)]
      have e : (r == j) = false := by simp; omega
      rw [e, e1]
      by_cases h4 : r = j + w
      · subst h4; simp
      · have e2 : (r == j + w) = false := by simp [h4]
        have e3 : (r - w == j) = false := by simp; omega
        rw [e2, e3]; rfl
theorem phi_skip {p s w j : Nat} (hs : s ≤ w) : phi p s w j = phi p s (2 * w) j := by
  unfold phi
  apply xr_congr
  intro i hi
  rw [Nat.mod_eq_of_lt (show i < w by omega), Nat.mod_eq_of_lt (show i < 2 * w by omega)]
def hv (s w r : Nat) : Nat := if s ≤ w then r else r ^^^ (r / 2 ^ w)
theorem hv_ok {p s w r : Nat} (h : ∀ j, j < 2 * w → r.testBit j = phi p s (2 * w) j) : ∀ j, j < w → (hv s w r).testBit j = phi p s w j := by
  intro j hj
  unfold hv
  by_cases hs : s ≤ w
  · rw [if_pos hs, h j (by omega), phi_skip hs]
  · rw [if_neg hs, Nat.testBit_xor, Nat.testBit_div_two_pow, h j (by omega), h (j + w) (by omega), phi_half hj]
theorem hv_lt {s w r k : Nat} (h : r < 2 ^ k) : hv s w r < 2 ^ k := by
  unfold hv
  split
  · exact h
  · exact Nat.xor_lt_two_pow h (Nat.lt_of_le_of_lt (Nat.div_le_self _ _) h)
theorem phi_0 {p s w : Nat} (hs : s ≤ w) {j : Nat} (_hj : j < w) : (p % 2 ^ s).testBit j = phi p s w j := by
  unfold phi
  rw [xr_congr (g := fun i => p.testBit i && (i == j)) (fun i hi => by rw [Nat.mod_eq_of_lt (by omega)]), xr_one, Nat.testBit_mod_two_pow]
theorem fold_eq {p s n : Nat} (hn : 0 < n) (hs : s ≤ 64) : (hv s n (hv s (2 * n) (hv s (4 * n) (hv s (8 * n) (hv s (16 * n) (hv s (32 * n) (p % 2 ^ s))))))) % 2 ^ n = FD p n s := by
  have h6 : ∀ j, j < 2 * (32 * n) → (p % 2 ^ s).testBit j = phi p s (2 * (32 * n)) j := fun j hj => phi_0 (by omega) hj
  have h5 := hv_ok h6
  have h4 := hv_ok (w := 16 * n) (fun j hj => by rw [show 2 * (16 * n) = 32 * n by omega] at hj ⊢; exact h5 j hj)
  have h3 := hv_ok (w := 8 * n) (fun j hj => by rw [show 2 * (8 * n) = 16 * n by omega] at hj ⊢; exact h4 j hj)
  have h2 := hv_ok (w := 4 * n) (fun j hj => by rw [show 2 * (4 * n) = 8 * n by omega] at hj ⊢; exact h3 j hj)
  have h1 := hv_ok (w := 2 * n) (fun j hj => by rw [show 2 * (2 * n) = 4 * n by omega] at hj ⊢; exact h2 j hj)
  have h0 := hv_ok (w := n) h1
  apply Nat.eq_of_testBit_eq
  intro j
  rw [Nat.testBit_mod_two_pow]
  by_cases hj : j < n
  · simp only [hj, decide_true, Bool.true_and]
    rw [h0 j hj, FD_bit]; rfl
  · simp only [hj, decide_false, Bool.false_and]
    rw [Nat.testBit_lt_two_pow (Nat.lt_of_lt_of_le (FD_lt p hn s) (Nat.pow_le_pow_right (by omega) (by omega)))]
theorem fold_step (f : Nat) (s n r : Nat) (k : Nat) (hk : k < 6) (hn : n < 16) (hs : s < 41) (hr : r < 2 ^ 64) (M : Mem) :
    fX9_folded_12 (f + 1) (nI s) (nI n) (lN r) (nI k) M = fX9_folded_12 f (nI s) (nI n) (lN (hv s (n * 2 ^ k) r)) (nI k + (-1)) M := by
  have hp : 2 ^ k < 64 := by
    have : 2 ^ k < 2 ^ 6 := Nat.pow_lt_pow_right (by omega) hk
    omega
  have hnk : n * 2 ^ k < 1024 := by
    have : n * 2 ^ k ≤ 15 * 63 := Nat.mul_le_mul (by omega) (by omega)
    omega
  have e1 : nI n <<< (nI k &&& 31) = nI (n * 2 ^ k) := by
    rw [sh31 k (by omega)]
    exact pk_shlN (nI k) k (sm32 k (by omega)) (by omega)
  rw [fX9_folded_12, if_neg (nI_pos (by omega)), e1]
  unfold hv
  by_cases h : s ≤ n * 2 ^ k
  · rw [if_pos (nI_le h (by omega)), if_pos h]; rfl
  · rw [if_neg (by rw [nI_leI (by omega) (by omega)]; exact h), if_neg h, ushr64 hr (by omega), lN_xor']; rfl
theorem fold_X (p s n : Nat) (hp : p < 2 ^ 64) (hs : s < 41) (hn0 : 0 < n) (hn : n < 16) (M : Mem) : fX9_folded (lN p) (nI s) (nI n) M = some (nI (FD p n s), M) := by
  have hr : p % 2 ^ s < 2 ^ 64 := Nat.lt_of_le_of_lt (Nat.mod_le _ _) hp
  have b5 := hv_lt (s := s) (w := 32 * n) hr
  have b4 := hv_lt (s := s) (w := 16 * n) b5
  have b3 := hv_lt (s := s) (w := 8 * n) b4
  have b2 := hv_lt (s := s) (w := 4 * n) b3
  have b1 := hv_lt (s := s) (w := 2 * n) b2
  have b0 := hv_lt (s := s) (w := n) b1
  have e0 : lN p &&& (((1 : Int64) <<< ((nI s).toInt64 &&& 63)) - (1 : Int64)) = lN (p % 2 ^ s) := by rw [shl64 s (by omega), lN_mask]
  unfold fX9_folded
  rw [e0]
  show fX9_folded_12 (99994 + 6) (nI s) (nI n) (lN (p % 2 ^ s)) (nI 5) M = _
  rw [fold_step _ s n _ 5 (by omega) hn hs hr, show nI 5 + (-1 : Int32) = nI 4 from by decide, show n * 2 ^ 5 = 32 * n by omega]
  rw [fold_step _ s n _ 4 (by omega) hn hs b5, show nI 4 + (-1 : Int32) = nI 3 from by decide, show n * 2 ^ 4 = 16 * n by omega]
  rw [fold_step _ s n _ 3 (by omega) hn hs b4, show nI 3 + (-1 : Int32) = nI 2 from by decide, show n * 2 ^ 3 = 8 * n by omega]
  rw [fold_step _ s n _ 2 (by omega) hn hs b3, show nI 2 + (-1 : Int32) = nI 1 from by decide, show n * 2 ^ 2 = 4 * n by omega]
  rw [fold_step _ s n _ 1 (by omega) hn hs b2, show nI 1 + (-1 : Int32) = nI 0 from by decide, show n * 2 ^ 1 = 2 * n by omega]
  rw [fold_step _ s n _ 0 (by omega) hn hs b1, show nI 0 + (-1 : Int32) = -1 from by decide, show n * 2 ^ 0 = n by omega]
  rw [show (99994 : Nat) = 99993 + 1 from rfl, fX9_folded_12, if_pos (by decide), shl64 n (by omega), lN_mask, fold_eq hn0 (by omega), lN_i]
theorem fold_Ms (o : Nat) (M : Mem) (p s n : Nat) (hM : M.2 o 41 = lN p) (hp : p < 2 ^ 62) (hs : s < 64) (hn0 : 0 < n) (hn : n < 16) : ∀ (k i f : Nat), i + k = s → k < f → fX10_foldOf_5 f o (nI s) (nI n) (nI (FD p n i)) (nI i) M = some (nI (FD p n s), M) := by
  intro k
  induction k with
  | zero =>
    intro i f hi hf
    obtain ⟨f, rfl⟩ : ∃ g, f = g + 1 := ⟨f - 1, by omega⟩
    have : i = s := by omega
    subst this
    rw [fX10_foldOf_5, if_pos (nI_le (Nat.le_refl _) (by omega))]
  | succ k ih =>
    intro i f hi hf
    obtain ⟨f, rfl⟩ : ∃ g, f = g + 1 := ⟨f - 1, by omega⟩
    rw [fX10_foldOf_5, if_neg (nI_ge (by omega) (by omega)), hM, sshr64 hp (by omega)]
    have e1 : lN (p / 2 ^ i) &&& (1 : Int64) = lN (p / 2 ^ i % 2) := lN_mask (k := 1)
    have e2 : p.testBit i = decide (p / 2 ^ i % 2 = 1) := by
      rw [Nat.testBit_eq_decide_div_mod_eq]
    rw [e1]
    by_cases hb : p / 2 ^ i % 2 = 1
    · have e3 : p.testBit i = true := by rw [e2]; simp [hb]
      rw [hb, if_pos (show lg_cmp (lN 1) 1 = 0 from by decide)]
      have e4 : (!decide (nI n = 0)) = true := by
        have := nI_ne0 hn0 (show n < 2 ^ 31 by omega)
        simp [this]
      rw [e4, ck_t]
      have e5 : irm (nI i) (nI n) = nI (i % n) := pk_rem (by omega) hn0 (by omega)
      have hin : i % n < n := Nat.mod_lt _ hn0
      rw [e5, shl32 _ (by omega), nI_xor']
      have e6 : FD p n i ^^^ 2 ^ (i % n) = FD p n (i + 1) := by rw [FD, e3]; rfl
      rw [e6]
      show fX10_foldOf_5 f o _ _ _ (nI i + 1) M = _
      rw [nI_1]
      exact ih (i + 1) f (by omega) (by omega)
    · have h0 : p / 2 ^ i % 2 = 0 := by omega
      have e3 : p.testBit i = false := by rw [e2]; simp [hb]
      rw [h0, if_neg (fun h => by have := (lg_cmp_eq _ _).mp h; revert this; decide)]
      have e6 : FD p n i = FD p n (i + 1) := by rw [FD, e3]; simp
      rw [e6]
      show fX10_foldOf_5 f o _ _ _ (nI i + 1) M = _
      rw [nI_1]
      exact ih (i + 1) f (by omega) (by omega)
theorem fold_M (o : Nat) (M : Mem) (p s n : Nat) (hM : M.2 o 41 = lN p) (hp : p < 2 ^ 62) (hs : s < 64) (hn0 : 0 < n) (hn : n < 16) : fX10_foldOf o (nI s) (nI n) M = some (nI (FD p n s), M) := by
  unfold fX10_foldOf
  exact fold_Ms o M p s n hM hp hs hn0 hn s 0 LF (by omega) (by unfold LF; omega)
