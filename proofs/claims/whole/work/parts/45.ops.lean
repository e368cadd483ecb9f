/-! The PROGRAM as mathematics (a row W as the reference's world has it) and one OP of it, on both sides. -/
abbrev Wd : Type := Nat → Int32
def nT (W : Wd) : Nat := tn (W 6)
def nO (W : Wd) : Nat := tn (W 7)
def nA (W : Wd) : Nat := tn (W 8)
def KK (W : Wd) (i : Nat) : Nat := tn (W (15 + 4 * i))
def NN (W : Wd) (i j : Nat) : Nat := tn (W (16 + 4 * i + j))
def AA (W : Wd) (i : Nat) : Nat := tn (W (175 + i))
def OpOk (W : Wd) (i : Nat) : Prop := (W (15 + 4 * i) = nI (KK W i) ∧ KK W i ≤ 10) ∧ (KK W i ≤ 8 → W (16 + 4 * i + 0) = nI (NN W i 0) ∧ NN W i 0 < 8) ∧ (KK W i ≤ 2 → W (16 + 4 * i + 1) = nI (NN W i 1) ∧ NN W i 1 < 1000) ∧ (3 ≤ KK W i → KK W i ≤ 7 → W (16 + 4 * i + 1) = nI (NN W i 1) ∧ NN W i 1 < 8) ∧ (KK W i = 8 → W (16 + 4 * i + 1) = nI (NN W i 1) ∧ NN W i 1 < 40) ∧ (KK W i = 9 → W (16 + 4 * i + 0) = nI (NN W i 0) ∧ NN W i 0 < 40) ∧ (KK W i = 6 ∨ KK W i = 7 → W (16 + 4 * i + 2) = nI (NN W i 2) ∧ NN W i 2 < 40)
def PgOk (W : Wd) : Prop := (W 6 = nI (nT W) ∧ nT W ≤ 5) ∧ (W 7 = nI (nO W) ∧ nO W ≤ 40) ∧ (W 8 = nI (nA W) ∧ nA W ≤ 40) ∧ (∀ i, i < nO W → OpOk W i) ∧ (∀ i, i < nA W → W (175 + i) = nI (AA W i) ∧ AA W i < 128)
abbrev Rg : Type := Nat → Nat
def uN' (f : Rg) (k v : Nat) : Rg := fun j => if j = k then v else f j
def brS (W : Wd) (i : Nat) : Bool := decide (6 ≤ KK W i) && decide (KK W i ≤ 8)
def tkB (W : Wd) (i : Nat) (r : Rg) : Bool := if KK W i = 8 then decide (r (NN W i 0) % 2 = 1) else if KK W i = 6 then decide (r (NN W i 0) < r (NN W i 1)) else decide (r (NN W i 0) = r (NN W i 1))
def glS (W : Wd) (i : Nat) : Nat := if KK W i = 9 then NN W i 0 else if KK W i = 8 then NN W i 1 else NN W i 2
def doS (W : Wd) (i : Nat) (r : Rg) : Rg :=
  if KK W i = 0 then uN' r (NN W i 0) (NN W i 1) else
  if KK W i = 1 then uN' r (NN W i 0) ((r (NN W i 0) + NN W i 1) % 1000) else
  if KK W i = 2 then uN' r (NN W i 0) ((r (NN W i 0) + 1000 - NN W i 1) % 1000) else
  if KK W i = 3 then uN' r (NN W i 0) (r (NN W i 1)) else
  if KK W i = 4 then uN' r (NN W i 0) ((r (NN W i 0) + r (NN W i 1)) % 1000) else
  if KK W i = 5 then uN' r (NN W i 0) ((r (NN W i 0) + 1000 - r (NN W i 1)) % 1000) else r
def neS (W : Wd) (i : Nat) (r : Rg) : Nat := if KK W i = 9 then glS W i else if brS W i = true then (if tkB W i r = true then glS W i else i + 1) else i + 1
def RgOk (r : Rg) : Prop := ∀ k, r k < 1000
theorem uN_ok {r : Rg} {k v : Nat} (h : RgOk r) (hv : v < 1000) : RgOk (uN' r k v) := by
  intro j
  unfold uN'
  split
  · exact hv
  · exact h j
theorem do_ok {W : Wd} {i : Nat} {r : Rg} (hO : OpOk W i) (h : RgOk r) : RgOk (doS W i r) := by
  unfold doS
  split
  · rename_i e; exact uN_ok h (hO.2.2.1 (by omega)).2
  · split
    · exact uN_ok h (Nat.mod_lt _ (by omega))
    · split
      · exact uN_ok h (Nat.mod_lt _ (by omega))
      · split
        · exact uN_ok h (h _)
        · split
          · exact uN_ok h (Nat.mod_lt _ (by omega))
          · split
            · exact uN_ok h (Nat.mod_lt _ (by omega))
            · exact h
theorem kE {k n : Nat} (hk : k < 2 ^ 31) (hn : n < 2 ^ 31) (h : ¬ k = n) : ¬ nI k = nI n := fun z => h ((nI_eq hk hn).mp z)
theorem mod_a {a n : Nat} (ha : a < 1000) (hn : n < 1000) : irm (nI a + nI n) 1000 = nI ((a + n) % 1000) := by
  rw [nI_add]; exact pk_rem (d := 1000) (by omega) (by omega) (by omega)
theorem sub_add {a n : Nat} (hn : n < 1000) : nI a - nI n + 1000 = nI (a + 1000 - n) := by
  have e : nI a - nI n + 1000 = nI (a + 1000) - nI n := by
    rw [show (1000 : Int32) = nI 1000 from rfl, ← nI_add, Int32.sub_eq_add_neg, Int32.sub_eq_add_neg, Int32.add_assoc, Int32.add_comm (-nI n), Int32.add_assoc]
  rw [e]; exact pk_sub (by omega)
theorem mod_s {a n : Nat} (ha : a < 1000) (hn : n < 1000) : irm (nI a - nI n + 1000) 1000 = nI ((a + 1000 - n) % 1000) := by
  rw [sub_add hn]; exact pk_rem (d := 1000) (by omega) (by omega) (by omega)
theorem mod_a2 {a n : Nat} (ha : a < 1000) (hn : n < 1000) : irm (nI a + nI n + 1000) 1000 = nI ((a + n) % 1000) := by
  rw [nI_add, show (1000 : Int32) = nI 1000 from rfl, nI_add, show irm (nI (a + n + 1000)) (nI 1000) = nI ((a + n + 1000) % 1000) from pk_rem (d := 1000) (by omega) (by omega) (by omega), show (a + n + 1000) % 1000 = (a + n) % 1000 by omega]
-- the class's told
def Tk (W : Wd) (q : Nat) (M : Mem) : Prop := M.1 q 7 = W 7 ∧ (∀ i, i < nO W → M.1 (q + 3) i = W (15 + 4 * i)) ∧ (∀ i j, i < nO W → j < 3 → M.1 (q + 4) (3 * i + j) = W (16 + 4 * i + j))
theorem n3 (i : Nat) : (3 : Int32) * nI i = nI (3 * i) := pk_mul 3 i
theorem n3j (i j : Nat) : nI (3 * i) + nI j = nI (3 * i + j) := nI_add _ _
section OpsX
variable {W : Wd} {q i : Nat} {M : Mem}
theorem hasOpX (hW : PgOk W) (h : Tk W q M) (x : Int32) : fX7_hasOp q x M = some (if 0 ≤ x ∧ x < nI (nO W) then 1 else 0, M) := by
  unfold fX7_hasOp
  rw [h.1, hW.2.1.1, L64_0, wi32, bI_s, isB_if, ck_t]
  have e : x ≤ nI (nO W) - 1 ↔ x < nI (nO W) := by
    have := hW.2.1.2
    have e1 : (nI (nO W) - 1).toInt = (nO W : Int) - 1 := by
      have := pk_sub_toInt (a := nO W) (b := 1) (by omega) (by omega)
      exact this
    rw [fa_le, fa_lt, e1, nI_toInt (by omega)]; omega
  simp only [e]
theorem canDoX (hW : PgOk W) (h : Tk W q M) (hi : i < 2 ^ 31) : fX7_canDo q (nI i) M = some (wkI (decide (i < nO W) && !decide (KK W i = 10)), M) := by
  have hO := hW.2.1.2
  unfold fX7_canDo
  rw [hasOpX hW h, bI_s]
  by_cases hlt : i < nO W
  · have hop := hW.2.2.2.1 i hlt
    have hc : (0 : Int32) ≤ nI i ∧ nI i < nI (nO W) := ⟨nI_pos' hi, nI_lt hlt (by omega)⟩
    rw [show (if (0 : Int32) ≤ nI i ∧ nI i < nI (nO W) then (1 : Int32) else 0) = 1 from if_pos hc, if_neg (by decide), ib_n (show i < 40 by omega) (by omega), ck_t, tn_n hi, h.2.1 i hlt, hop.1.1]
    by_cases h10 : KK W i = 10
    · rw [if_pos (by rw [h10]; rfl)]; simp [h10, wkI]
    · rw [if_neg (show ¬ nI (KK W i) = (10 : Int32) from kE (n := 10) (by have := hop.1.2; omega) (by omega) h10)]; simp [h10, hlt, wkI]
  · have hc : ¬ ((0 : Int32) ≤ nI i ∧ nI i < nI (nO W)) := fun z => nI_nlt (show nO W ≤ i by omega) hi z.2
    rw [show (if (0 : Int32) ≤ nI i ∧ nI i < nI (nO W) then (1 : Int32) else 0) = 0 from if_neg hc, if_pos rfl]; simp [hlt, wkI]
theorem brX (hW : PgOk W) (h : Tk W q M) (hi : i < nO W) : fX7_branches q (nI i) M = some (wkI (brS W i), M) := by
  have hO := hW.2.1.2
  have hop := hW.2.2.2.1 i hi
  have hk := hop.1.2
  unfold fX7_branches fX7_branches_33
  rw [ib_n (show i < 40 by omega) (by omega), ck_t, ck_t, ck_t, tn_n (by omega), h.2.1 i hi, hop.1.1]
  unfold brS
  by_cases h6 : KK W i = 6
  · rw [if_pos (by rw [h6]; rfl)]; simp [h6, wkI]
  · rw [if_neg (show ¬ nI (KK W i) = (6 : Int32) from kE (n := 6) (by omega) (by omega) h6)]
    by_cases h7 : KK W i = 7
    · rw [if_pos (by rw [h7]; rfl)]; simp [h7, wkI]
    · rw [if_neg (show ¬ nI (KK W i) = (7 : Int32) from kE (n := 7) (by omega) (by omega) h7)]
      by_cases h8 : KK W i = 8
      · rw [if_pos (by rw [h8]; rfl)]; simp [h8, wkI]
      · rw [if_neg (show ¬ nI (KK W i) = (8 : Int32) from kE (n := 8) (by omega) (by omega) h8)]
        have : ¬ (6 ≤ KK W i ∧ KK W i ≤ 8) := by omega
        simp [this, wkI]
theorem tgtX (hW : PgOk W) (h : Tk W q M) (hi : i < nO W) (hk : 6 ≤ KK W i ∧ KK W i ≤ 9) : fX7_target q (nI i) M = some (nI (glS W i), M) := by
  have hO := hW.2.1.2
  have hop := hW.2.2.2.1 i hi
  unfold fX7_target glS
  rw [ib_n (show i < 40 by omega) (by omega), ck_t, ck_t, tn_n (by omega), h.2.1 i hi, hop.1.1, n3]
  by_cases h9 : KK W i = 9
  · rw [if_pos (by rw [h9]; rfl), if_pos h9, ib_n (show 3 * i < 120 by omega) (by omega), ck_t, tn_n (by omega), show M.1 (q + 4) (3 * i) = W (16 + 4 * i + 0) from h.2.2 i 0 hi (by omega), (hop.2.2.2.2.2.1 h9).1]
  · rw [if_neg (show ¬ nI (KK W i) = (9 : Int32) from kE (n := 9) (by omega) (by omega) h9), if_neg h9]
    by_cases h8 : KK W i = 8
    · rw [if_pos (by rw [h8]; rfl), if_pos h8, show nI (3 * i) + 1 = nI (3 * i + 1) from n3j i 1, ib_n (show 3 * i + 1 < 120 by omega) (by omega), ck_t, tn_n (by omega), h.2.2 i 1 hi (by omega), (hop.2.2.2.2.1 h8).1]
    · rw [if_neg (show ¬ nI (KK W i) = (8 : Int32) from kE (n := 8) (by omega) (by omega) h8), if_neg h8, show nI (3 * i) + 2 = nI (3 * i + 2) from n3j i 2, ib_n (show 3 * i + 2 < 120 by omega) (by omega), ck_t, tn_n (by omega), h.2.2 i 2 hi (by omega), (hop.2.2.2.2.2.2 (by omega)).1]
def Reg (c f : Nat) (r : Rg) (M : Mem) : Prop := ∀ k, k < 8 → M.1 c (f + k) = nI (r k)
theorem tksX (hW : PgOk W) (h : Tk W q M) (hi : i < nO W) (hb : brS W i = true) {c f n : Nat} {r : Rg} (hkd : (kd c).2 = n) (hn : n < 10000) (hf : f + 8 ≤ n) (hr : RgOk r) (hR : Reg c f r M) : fX7_takes q (nI i) c (nI f) M = some (wkI (tkB W i r), M) := by
  have hO := hW.2.1.2
  have hop := hW.2.2.2.1 i hi
  simp only [brS, Bool.and_eq_true, decide_eq_true_eq] at hb
  obtain ⟨n0, l0⟩ := hop.2.1 (by omega)
  unfold fX7_takes tkB
  rw [n3, ib_n (show 3 * i < 120 by omega) (by omega), ck_t, tn_n (show 3 * i < 2 ^ 31 by omega), show M.1 (q + 4) (3 * i) = W (16 + 4 * i + 0) from h.2.2 i 0 hi (by omega), n0, nI_add, hkd, ib_n (show f + NN W i 0 < n by omega) (by omega), ck_t, tn_n (show f + NN W i 0 < 2 ^ 31 by omega), hR _ l0, ib_n (show i < 40 by omega) (by omega), ck_t, tn_n (show i < 2 ^ 31 by omega), h.2.1 i hi, hop.1.1]
  have r0 := hr (NN W i 0)
  by_cases h8 : KK W i = 8
  · rw [if_pos (by rw [h8]; rfl), if_pos h8, show irm (nI (r (NN W i 0))) 2 = nI (r (NN W i 0) % 2) from pk_rem (d := 2) (by omega) (by omega) (by omega)]
    by_cases hm : r (NN W i 0) % 2 = 1
    · rw [if_pos (by rw [hm]; rfl)]; simp [hm, wkI]
    · rw [if_neg (show ¬ nI (r (NN W i 0) % 2) = (1 : Int32) from kE (n := 1) (by omega) (by omega) hm)]; simp [hm, wkI]
  · obtain ⟨n1, l1⟩ := hop.2.2.2.1 (by omega) (by omega)
    have r1 := hr (NN W i 1)
    rw [if_neg (show ¬ nI (KK W i) = (8 : Int32) from kE (n := 8) (by omega) (by omega) h8), if_neg h8, show nI (3 * i) + 1 = nI (3 * i + 1) from n3j i 1, ib_n (show 3 * i + 1 < 120 by omega) (by omega), ck_t, tn_n (show 3 * i + 1 < 2 ^ 31 by omega), h.2.2 i 1 hi (by omega), n1, nI_add, ib_n (show f + NN W i 1 < n by omega) (by omega), ck_t, tn_n (show f + NN W i 1 < 2 ^ 31 by omega), hR _ l1, ck_t]
    by_cases h6 : KK W i = 6
    · rw [if_pos (by rw [h6]; rfl), if_pos h6]
      by_cases hm : r (NN W i 0) < r (NN W i 1)
      · rw [if_neg (nI_ge hm (by omega))]; simp [hm, wkI]
      · rw [if_pos (nI_le (by omega) (by omega))]; simp [hm, wkI]
    · rw [if_neg (show ¬ nI (KK W i) = (6 : Int32) from kE (n := 6) (by omega) (by omega) h6), if_neg h6]
      by_cases hm : r (NN W i 0) = r (NN W i 1)
      · rw [if_pos (by rw [hm])]; simp [hm, wkI]
      · rw [if_neg (kE (by omega) (by omega) hm)]; simp [hm, wkI]
def RgCh (c f : Nat) (M M' : Mem) : Prop := (∀ b, ¬ b = c → M'.1 b = M.1 b) ∧ (∀ k, ¬ (f ≤ k ∧ k < f + 8) → M'.1 c k = M.1 c k) ∧ M'.2 = M.2
theorem RgCh.rf {c f : Nat} {M : Mem} : RgCh c f M M := ⟨fun _ _ => rfl, fun _ _ => rfl, rfl⟩
theorem reg_put {c f k v : Nat} {r : Rg} {M : Mem} (hR : Reg c f r M) (hk : k < 8) : Reg c f (uN' r k v) (pI M c (f + k) (nI v)) ∧ RgCh c f M (pI M c (f + k) (nI v)) := by
  refine ⟨fun j hj => ?_, fun b hb => (pI_o b hb).1, fun j hj => by rw [pI_1, if_pos rfl, if_neg (by omega)], rfl⟩
  rw [pI_1, if_pos rfl]
  unfold uN'
  by_cases e : j = k
  · rw [if_pos (by omega), if_pos e]
  · rw [if_neg (by omega), if_neg e]; exact hR j hj
theorem performX (hW : PgOk W) (h : Tk W q M) (hi : i < nO W) (h10 : ¬ KK W i = 10) {c f n : Nat} {r : Rg} (hkd : (kd c).2 = n) (hn : n < 10000) (hf : f + 8 ≤ n) (hr : RgOk r) (hR : Reg c f r M) : ∃ M', fX7_perform q (nI i) c (nI f) M = some (nI (neS W i r), M') ∧ Reg c f (doS W i r) M' ∧ RgCh c f M M' := by
  have hO := hW.2.1.2
  have hop := hW.2.2.2.1 i hi
  have hk := hop.1.2
  unfold fX7_perform neS
  rw [ib_n (show i < 40 by omega) (by omega), ck_t, tn_n (show i < 2 ^ 31 by omega), h.2.1 i hi, hop.1.1]
  by_cases h9 : KK W i = 9
  · rw [if_pos (by rw [h9]; rfl), if_pos h9, tgtX hW h hi (by omega), bI_s]
    refine ⟨M, rfl, ?_, RgCh.rf⟩
    have : doS W i r = r := by unfold doS; simp [h9]
    rw [this]; exact hR
  · rw [if_neg (show ¬ nI (KK W i) = (9 : Int32) from kE (n := 9) (by omega) (by omega) h9), if_neg h9, brX hW h hi, bI_s]
    by_cases hb : brS W i = true
    · rw [if_neg (by rw [wkI_0, hb]; simp), if_pos hb, tksX hW h hi hb hkd hn hf hr hR, bI_s]
      have hbb := hb
      simp only [brS, Bool.and_eq_true, decide_eq_true_eq] at hbb
      have hd : doS W i r = r := by unfold doS; rw [if_neg (by omega), if_neg (by omega), if_neg (by omega), if_neg (by omega), if_neg (by omega), if_neg (by omega)]
      rw [hd]
      by_cases ht : tkB W i r = true
      · rw [if_neg (by rw [wkI_0, ht]; simp), if_pos ht, tgtX hW h hi (by omega), bI_s]
        exact ⟨M, rfl, hR, RgCh.rf⟩
      · rw [if_pos (by rw [wkI_0]; simpa using ht), if_neg ht, nI_1]
        exact ⟨M, rfl, hR, RgCh.rf⟩
    · rw [if_pos (by rw [wkI_0]; simpa using hb), if_neg hb]
      simp only [brS, Bool.and_eq_true, decide_eq_true_eq] at hb
      obtain ⟨n0, l0⟩ := hop.2.1 (by omega)
      have r0 := hr (NN W i 0)
      rw [n3, ib_n (show 3 * i < 120 by omega) (by omega), ck_t, tn_n (show 3 * i < 2 ^ 31 by omega), show nI (3 * i) + 1 = nI (3 * i + 1) from n3j i 1, ib_n (show 3 * i + 1 < 120 by omega) (by omega), ck_t, tn_n (show 3 * i + 1 < 2 ^ 31 by omega), ck_t, h.2.1 i hi, hop.1.1, show M.1 (q + 4) (3 * i) = W (16 + 4 * i + 0) from h.2.2 i 0 hi (by omega), n0, h.2.2 i 1 hi (by omega), nI_add, hkd, ib_n (show f + NN W i 0 < n by omega) (by omega), tn_n (show f + NN W i 0 < 2 ^ 31 by omega), nI_1, hR _ l0]
      simp only [ck_t]
      have out : ∀ v : Nat, doS W i r = uN' r (NN W i 0) v → ∃ M', some (nI (i + 1), pI M c (f + NN W i 0) (nI v)) = some (nI (i + 1), M') ∧ Reg c f (doS W i r) M' ∧ RgCh c f M M' := by
        intro v hv
        obtain ⟨a, b⟩ := reg_put (v := v) hR l0
        exact ⟨_, rfl, by rw [hv]; exact a, b⟩
      by_cases k0 : KK W i = 0
      · rw [if_pos (by rw [k0]; rfl), (hop.2.2.1 (by omega)).1]
        exact out _ (by unfold doS; rw [if_pos k0])
      · rw [if_neg (show ¬ nI (KK W i) = (0 : Int32) from kE (n := 0) (by omega) (by omega) k0)]
        by_cases k1 : KK W i = 1
        · obtain ⟨n1, l1⟩ := hop.2.2.1 (by omega)
          rw [if_pos (by rw [k1]; rfl), n1, mod_a r0 l1]
          exact out _ (by unfold doS; rw [if_neg k0, if_pos k1])
        · rw [if_neg (show ¬ nI (KK W i) = (1 : Int32) from kE (n := 1) (by omega) (by omega) k1)]
          by_cases k2 : KK W i = 2
          · obtain ⟨n1, l1⟩ := hop.2.2.1 (by omega)
            rw [if_pos (by rw [k2]; rfl), n1, mod_s r0 l1]
            exact out _ (by unfold doS; rw [if_neg k0, if_neg k1, if_pos k2])
          · rw [if_neg (show ¬ nI (KK W i) = (2 : Int32) from kE (n := 2) (by omega) (by omega) k2)]
            obtain ⟨n1, l1⟩ := hop.2.2.2.1 (by omega) (by omega)
            have r1 := hr (NN W i 1)
            rw [n1, nI_add, ib_n (show f + NN W i 1 < n by omega) (by omega), tn_n (show f + NN W i 1 < 2 ^ 31 by omega), hR _ l1]
            simp only [ck_t]
            by_cases k3 : KK W i = 3
            · rw [if_pos (by rw [k3]; rfl)]
              exact out _ (by unfold doS; rw [if_neg k0, if_neg k1, if_neg k2, if_pos k3])
            · rw [if_neg (show ¬ nI (KK W i) = (3 : Int32) from kE (n := 3) (by omega) (by omega) k3)]
              by_cases k4 : KK W i = 4
              · rw [if_pos (by rw [k4]; rfl), mod_a r0 r1]
                exact out _ (by unfold doS; rw [if_neg k0, if_neg k1, if_neg k2, if_neg k3, if_pos k4])
              · have k5 : KK W i = 5 := by omega
                rw [if_neg (show ¬ nI (KK W i) = (4 : Int32) from kE (n := 4) (by omega) (by omega) k4), if_pos (by rw [k5]; rfl), mod_s r0 r1]
                exact out _ (by unfold doS; rw [if_neg k0, if_neg k1, if_neg k2, if_neg k3, if_neg k4, if_pos k5])
end OpsX
