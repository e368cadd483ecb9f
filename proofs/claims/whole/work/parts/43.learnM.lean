/-! The reference's guesser: learning. Head by wip/whole/mk43.py. -/
def ChM (o : Nat) (M M' : Mem) : Prop := (∀ c, ¬ c = o → ¬ (o + 13 ≤ c ∧ c ≤ o + 22) → M'.1 c = M.1 c) ∧ (∀ k, ¬ (37 ≤ k ∧ k ≤ 40) → M'.1 o k = M.1 o k) ∧ M'.2 = M.2
theorem ChM.rf {o : Nat} {M : Mem} : ChM o M M := ⟨fun _ _ _ => rfl, fun _ _ => rfl, rfl⟩
theorem ChM.tr {o : Nat} {A B C : Mem} (h : ChM o A B) (k : ChM o B C) : ChM o A C := ⟨fun c a b => (k.1 c a b).trans (h.1 c a b), fun j hj => (k.2.1 j hj).trans (h.2.1 j hj), k.2.2.trans h.2.2⟩
theorem ChM.c {o c k : Nat} {v : Int32} {M : Mem} (hc : 13 ≤ c ∧ c ≤ 22) : ChM o M (pI M (o + c) k v) := ⟨fun b b1 b2 => (pI_o b (by omega)).1, fun j _ => by rw [(pI_o o (by omega)).1], rfl⟩
theorem ChM.o {o k : Nat} {v : Int32} {M : Mem} (hk : 37 ≤ k ∧ k ≤ 40) : ChM o M (pI M o k v) := ⟨fun b b1 _ => (pI_o b b1).1, fun j hj => by rw [pI_1, if_pos rfl, if_neg (by omega)], rfl⟩
def SM (cf : Cfg) (g0 gc : GS) (p a o : Nat) (M : Mem) : Prop := AM cf g0 p a o M ∧ KM cf o M ∧ vM o M = gc ∧ M.2 o 41 = lN p
theorem SM.ch {cf : Cfg} {g0 gc gc' : GS} {p a o : Nat} {M M' : Mem} (h : SM cf g0 gc p a o M) (c : ChM o M M') (e : vM o M' = gc') : SM cf g0 gc' p a o M' := by
  obtain ⟨⟨hT, a1, a2, a3, a4, a5, a6, a7⟩, ⟨k0, k1, k2, k3, k4, k5, k6⟩, -, hp⟩ := h
  obtain ⟨c1, c2, c3⟩ := c
  have w25 := c1 (o + 25) (by omega) (by omega)
  have w1 := c1 (o + 1) (by omega) (by omega)
  refine ⟨⟨hT.mv (c1 _ (by omega) (by omega)) (c1 _ (by omega) (by omega)) (fun k _ _ => c2 k (by omega)), by rw [w25]; exact a1, by rw [w25]; exact a2, by rw [w25]; exact a3, by rw [c2 52 (by omega)]; exact a4, by rw [c2 53 (by omega)]; exact a5, by rw [c2 54 (by omega)]; exact a6, by rw [c2 55 (by omega)]; exact a7⟩, ⟨by rw [w1]; exact k0, by rw [w1]; exact k1, by rw [w1]; exact k2, by rw [w1]; exact k3, by rw [c2 26 (by omega)]; exact k4, by rw [c2 25 (by omega)]; exact k5, fun t x y => by rw [c1 (o + 12) (by omega) (by omega)]; exact k6 t x y⟩, e, by rw [c3]; exact hp⟩
theorem vm_0 (o : Nat) (M : Mem) (k : Nat) (v : Int32) : vM o (pI M (o + 13) k v) = gu (vM o M) 0 k v := by
  funext i j
  unfold vM gu
  split <;> first | (simp [pI_1]; done) | (simp_all [pI_1]; done)
theorem vm_1 (o : Nat) (M : Mem) (k : Nat) (v : Int32) : vM o (pI M (o + 14) k v) = gu (vM o M) 1 k v := by
  funext i j
  unfold vM gu
  split <;> first | (simp [pI_1]; done) | (simp_all [pI_1]; done)
theorem vm_2 (o : Nat) (M : Mem) (k : Nat) (v : Int32) : vM o (pI M (o + 15) k v) = gu (vM o M) 2 k v := by
  funext i j
  unfold vM gu
  split <;> first | (simp [pI_1]; done) | (simp_all [pI_1]; done)
theorem vm_3 (o : Nat) (M : Mem) (k : Nat) (v : Int32) : vM o (pI M (o + 16) k v) = gu (vM o M) 3 k v := by
  funext i j
  unfold vM gu
  split <;> first | (simp [pI_1]; done) | (simp_all [pI_1]; done)
theorem vm_4 (o : Nat) (M : Mem) (k : Nat) (v : Int32) : vM o (pI M (o + 17) k v) = gu (vM o M) 4 k v := by
  funext i j
  unfold vM gu
  split <;> first | (simp [pI_1]; done) | (simp_all [pI_1]; done)
theorem vm_5 (o : Nat) (M : Mem) (k : Nat) (v : Int32) : vM o (pI M (o + 18) k v) = gu (vM o M) 5 k v := by
  funext i j
  unfold vM gu
  split <;> first | (simp [pI_1]; done) | (simp_all [pI_1]; done)
theorem vm_6 (o : Nat) (M : Mem) (k : Nat) (v : Int32) : vM o (pI M (o + 19) k v) = gu (vM o M) 6 k v := by
  funext i j
  unfold vM gu
  split <;> first | (simp [pI_1]; done) | (simp_all [pI_1]; done)
theorem vm_7 (o : Nat) (M : Mem) (k : Nat) (v : Int32) : vM o (pI M (o + 20) k v) = gu (vM o M) 7 k v := by
  funext i j
  unfold vM gu
  split <;> first | (simp [pI_1]; done) | (simp_all [pI_1]; done)
theorem vm_8 (o : Nat) (M : Mem) (k : Nat) (v : Int32) : vM o (pI M (o + 21) k v) = gu (vM o M) 8 k v := by
  funext i j
  unfold vM gu
  split <;> first | (simp [pI_1]; done) | (simp_all [pI_1]; done)
theorem vm_9 (o : Nat) (M : Mem) (k : Nat) (v : Int32) : vM o (pI M (o + 22) k v) = gu (vM o M) 9 k v := by
  funext i j
  unfold vM gu
  split <;> first | (simp [pI_1]; done) | (simp_all [pI_1]; done)
theorem vm_10 (o : Nat) (M : Mem) (v : Int32) : vM o (pI M o 37 v) = gs (vM o M) 10 v := by
  funext i j
  unfold vM gs
  split <;> first | (simp [pI_1]; done) | (simp_all [pI_1]; done)
theorem vm_11 (o : Nat) (M : Mem) (v : Int32) : vM o (pI M o 38 v) = gs (vM o M) 11 v := by
  funext i j
  unfold vM gs
  split <;> first | (simp [pI_1]; done) | (simp_all [pI_1]; done)
theorem vm_12 (o : Nat) (M : Mem) (v : Int32) : vM o (pI M o 40 v) = gs (vM o M) 12 v := by
  funext i j
  unfold vM gs
  split <;> first | (simp [pI_1]; done) | (simp_all [pI_1]; done)
theorem vm_13 (o : Nat) (M : Mem) (v : Int32) : vM o (pI M o 39 v) = gs (vM o M) 13 v := by
  funext i j
  unfold vM gs
  split <;> first | (simp [pI_1]; done) | (simp_all [pI_1]; done)
theorem tk1 {t : Int32} (ht : t = 0 ∨ t = 1) : (2 : Int32) * t - 1 = (if t = 1 then 1 else -1) := by rcases ht with rfl | rfl <;> decide
theorem tk2 {t x : Int32} (ht : t = 0 ∨ t = 1) : x + 2 * t - 1 = x + (if t = 1 then 1 else -1) := by
  rw [← tk1 ht, Int32.sub_eq_add_neg, Int32.sub_eq_add_neg (2 * t), Int32.add_assoc]
theorem tk3 {t : Int32} (ht : t = 0 ∨ t = 1) : t - 1 = (if t = 1 then 0 else -1) := by rcases ht with rfl | rfl <;> decide
theorem sub1 (x : Int32) : x - 1 = x + (-1) := Int32.sub_eq_add_neg x 1
theorem btM (x lo hi : Int32) (M : Mem) : fX10_between x lo hi M = some (bd x lo hi, M) := rfl
theorem gu_idle (g : GS) (i k : Nat) {v : Int32} (h : g i k = v) : gu g i k v = g := by
  funext x j
  unfold gu
  split
  · rename_i hh; rw [hh.1, hh.2, h]
  · rfl
theorem gu_over (g : GS) (i k : Nat) (v w : Int32) : gu (gu g i k v) i k w = gu g i k w := by
  funext x j
  unfold gu
  split <;> rfl
theorem gu_swap (g : GS) (i k j l : Nat) (v w : Int32) (h : ¬ i = j) : gu (gu g i k v) j l w = gu (gu g j l w) i k v := by
  funext x y
  unfold gu
  by_cases h1 : x = j ∧ y = l
  · rw [if_pos h1, if_neg (fun z => h (by rw [← z.1, ← h1.1])), if_pos h1]
  · rw [if_neg h1, if_neg h1]
section LearnM
variable {cf : Cfg} {g0 gc : GS} {p a o : Nat} {t : Int32} {M : Mem}
theorem SM.r {i : Nat} (h : SM cf g0 gc p a o M) : vM o M i = gc i := by rw [h.2.2.1]
theorem emptM {i : Nat} (hi : i < 8) : ∃ M', fX10_empties o (nI i) M = some M' ∧ ChM o M M' ∧ vM o M' = gu (gu (gu (gu (vM o M) 4 i (-1)) 5 i (-1)) 6 i 0) 7 i 0 := by
  unfold fX10_empties
  rw [ib_n hi (by omega), tn_n (by omega)]
  simp only [ck_t]
  refine ⟨_, rfl, (((ChM.c (by omega)).tr (ChM.c (by omega))).tr (ChM.c (by omega))).tr (ChM.c (by omega)), ?_⟩
  rw [vm_7, vm_6, vm_5, vm_4]
theorem go129M {i : Nat} (hi : i < 8) (h60 : (vM o M 6 i).toInt ≤ 60) : ∃ M', fX10_learnLoop_129 o (nI i) M = some M' ∧ ChM o M M' ∧ vM o M' = goS1 (vM o M) i := by
  unfold fX10_learnLoop_129 goS1
  rw [ib_n hi (by omega), tn_n (by omega), ck_t, show M.1 (o + 19) i = vM o M 6 i from rfl]
  by_cases h : vM o M 6 i = 60
  · rw [if_pos (by rw [h]; decide), if_pos h]
    obtain ⟨M1, e1, c1, v1⟩ := emptM (o := o) (M := M) hi
    rw [e1, bV_s, ck_t]
    exact ⟨_, rfl, c1.tr (ChM.c (by omega)), by rw [vm_8, v1]; rfl⟩
  · rw [if_neg (by
      rw [fa_le, i_60]
      intro z
      exact h (Int32.toInt_inj.mp (by rw [i_60]; omega))), if_neg h]
    exact ⟨M, rfl, ChM.rf, rfl⟩
theorem lpM (ha : a < 64) (ht : t = 0 ∨ t = 1) (hL : GL gc) (h : SM cf g0 gc p a o M) : ∃ M', fX10_learnLoop o t M = some M' ∧ ChM o M M' ∧ vM o M' = lpS gc a t (!decide (anS cf g0 p a = t)) := by
  have hi : a % 8 < 8 := by omega
  have h44 : M.1 o 44 = nI a := h.1.1.1
  have h54 : M.1 o 54 = anS cf g0 p a := h.1.2.2.2.2.2.2.1
  have hv := h.2.2.1
  obtain ⟨l1, l2, l3⟩ := hL _ hi
  have l4 := add1 l3 l2
  unfold fX10_learnLoop
  rw [h44, h54, show irm (nI a) 8 = nI (a % 8) from pk_rem (a := a) (d := 8) (by omega) (by omega) (by omega), ib_n hi (by omega), tn_n (by omega)]
  simp only [ck_t]
  rw [show M.1 (o + 17) (a % 8) = gc 4 (a % 8) from by rw [← hv]; rfl, show M.1 (o + 18) (a % 8) = gc 5 (a % 8) from by rw [← hv]; rfl, show M.1 (o + 19) (a % 8) = gc 6 (a % 8) from by rw [← hv]; rfl, show M.1 (o + 21) (a % 8) = gc 8 (a % 8) from by rw [← hv]; rfl]
  unfold lpS
  generalize hii : a % 8 = i at *
  by_cases ho : gc 4 i = nI a
  · rw [if_pos ho, if_pos ho]
    by_cases h1 : t = 1
    · rw [if_pos h1, if_pos h1]
      have e5 : (pI M (o + 19) i (gc 6 i + 1)).1 (o + 18) i = gc 5 i := by rw [(pI_o (o + 18) (by omega)).1, ← hv]; rfl
      have e6 : (pI M (o + 19) i (gc 6 i + 1)).1 (o + 19) i = gc 6 i + 1 := by rw [pI_1]; simp
      rw [e5, e6]
      have c1 : ChM o M (pI M (o + 19) i (gc 6 i + 1)) := ChM.c (by omega)
      have v1 : vM o (pI M (o + 19) i (gc 6 i + 1)) = gu gc 6 i (gc 6 i + 1) := by rw [vm_6, hv]
      have b1 : (vM o (pI M (o + 19) i (gc 6 i + 1)) 6 i).toInt ≤ 60 := by
        rw [v1, show gu gc 6 i (gc 6 i + 1) 6 i = gc 6 i + 1 from by simp [gu], l4]; omega
      unfold goS
      by_cases hn : gc 5 i = -1
      · rw [if_pos hn, if_pos hn]
        obtain ⟨M', e, c, v⟩ := go129M (o := o) hi b1
        exact ⟨M', e, c1.tr c, by rw [v, v1]⟩
      · rw [if_neg hn, if_neg hn]
        by_cases hle : gc 6 i + 1 ≤ gc 5 i
        · rw [if_pos hle, if_pos hle]
          obtain ⟨M', e, c, v⟩ := go129M (o := o) hi b1
          exact ⟨M', e, c1.tr c, by rw [v, v1]⟩
        · rw [if_neg hle, if_neg hle]
          have c2 : ChM o M (pI (pI (pI M (o + 19) i (gc 6 i + 1)) (o + 18) i (-1)) (o + 20) i 0) := c1.tr ((ChM.c (by omega)).tr (ChM.c (by omega)))
          have v2 : vM o (pI (pI (pI M (o + 19) i (gc 6 i + 1)) (o + 18) i (-1)) (o + 20) i 0) = gu (gu (gu gc 6 i (gc 6 i + 1)) 5 i (-1)) 7 i 0 := by rw [vm_7, vm_5, v1]
          obtain ⟨M', e, c, v⟩ := go129M (o := o) (M := pI (pI (pI M (o + 19) i (gc 6 i + 1)) (o + 18) i (-1)) (o + 20) i 0) hi (by
            rw [v2, show gu (gu (gu gc 6 i (gc 6 i + 1)) 5 i (-1)) 7 i 0 6 i = gc 6 i + 1 from by simp [gu], l4]; omega)
          exact ⟨M', e, c2.tr c, by rw [v, v2]⟩
    · rw [if_neg h1, if_neg h1]
      have k202 : ∀ v : Int32, fX10_learnLoop_202 o (nI i) (o + 20) (nI i) v M = some (pI (pI (pI M (o + 20) i v) (o + 18) i (gc 6 i)) (o + 19) i 0) := by
        intro v
        unfold fX10_learnLoop_202
        rw [ib_n hi (by omega), tn_n (by omega)]
        simp only [ck_t]
        rw [show (pI M (o + 20) i v).1 (o + 19) i = gc 6 i from by rw [(pI_o (o + 19) (by omega)).1, ← hv]; rfl]
      unfold leS
      by_cases hq : gc 6 i = gc 5 i
      · rw [if_pos hq, if_pos hq]
        unfold fX10_learnLoop_176
        rw [if_neg (by decide), ib_n hi (by omega), ck_t, tn_n (by omega), show M.1 (o + 20) i = gc 7 i from by rw [← hv]; rfl, k202]
        refine ⟨_, rfl, ((ChM.c (by omega)).tr (ChM.c (by omega))).tr (ChM.c (by omega)), ?_⟩
        rw [vm_6, vm_5, vm_7, hv]
        rw [gu_swap gc 7 i 5 i _ _ (by omega), gu_idle gc 5 i hq.symm]
      · rw [if_neg hq, if_neg hq]
        unfold fX10_learnLoop_176
        rw [if_pos rfl, k202]
        refine ⟨_, rfl, ((ChM.c (by omega)).tr (ChM.c (by omega))).tr (ChM.c (by omega)), ?_⟩
        rw [vm_6, vm_5, vm_7, hv, gu_swap gc 7 i 5 i _ _ (by omega)]
  · rw [if_neg ho, if_neg ho]
    by_cases hw : anS cf g0 p a = t
    · rw [if_pos hw, if_neg (by simp [hw])]
      exact ⟨M, rfl, ChM.rf, hv⟩
    · have hbw : (!decide (anS cf g0 p a = t)) = true := by simp [hw]
      rw [if_neg hw, if_pos hbw]
      by_cases h8 : gc 8 i ≤ 0
      · rw [if_pos h8, if_pos h8]
        obtain ⟨M1, e1, c1, v1⟩ := emptM (o := o) (M := M) hi
        rw [e1, bV_s, c1.2.1 44 (by omega), h44]
        refine ⟨_, rfl, (c1.tr (ChM.c (by omega))).tr (ChM.c (by omega)), ?_⟩
        rw [vm_8, vm_4, v1, hv]
        unfold giS
        rw [gu_swap _ 7 i 4 i _ _ (by omega), gu_swap _ 6 i 4 i _ _ (by omega), gu_swap _ 5 i 4 i _ _ (by omega), gu_over]
      · rw [if_neg h8, if_neg h8]
        exact ⟨_, rfl, ChM.c (by omega), by rw [vm_8, hv]⟩
theorem cuM (ht : t = 0 ∨ t = 1) {k c : Nat} (f : Nat) (hk : k < 3) (hc : c < 48) (hp : M.1 (o + 25) k = nI c) : ∃ M', fX10_learnCorrector_67 (f + 1) o t (nI k) M = fX10_learnCorrector_67 f o t (nI (k + 1)) M' ∧ ChM o M M' ∧ vM o M' = cuS (vM o M) c (if t = 1 then 1 else -1) := by
  rw [fX10_learnCorrector_67, if_neg (by rw [show (3 : Int32) = nI 3 from rfl]; exact nI_ge hk (by omega)), ib_n hk (by omega), tn_n (by omega)]
  simp only [ck_t]
  rw [hp, ib_n hc (by omega), tn_n (by omega), ck_t, btM, bI_s, ck_t, nI_1, tk2 ht]
  exact ⟨_, rfl, ChM.c (by omega), vm_9 o M _ _⟩
theorem cu3M (ht : t = 0 ∨ t = 1) (h : SM cf g0 gc p a o M) : ∃ M', fX10_learnCorrector_65 o t M = some M' ∧ ChM o M M' ∧ vM o M' = cuS (cuS (cuS gc (c0S cf g0 p a) (if t = 1 then 1 else -1)) (c1S p a) (if t = 1 then 1 else -1)) (c2S p a) (if t = 1 then 1 else -1) := by
  have hc0 := c0_lt cf g0 p a
  have hc1 := c1_lt p a
  have hc2 := c2_lt p a
  unfold fX10_learnCorrector_65
  rw [show LF = 99996 + 1 + 1 + 1 + 1 from rfl, show (0 : Int32) = nI 0 from rfl]
  obtain ⟨M1, e1, k1, v1⟩ := cuM (o := o) (M := M) ht (99996 + 1 + 1 + 1) (show 0 < 3 by omega) (show c0S cf g0 p a < 48 by omega) h.1.2.1
  have h1 := h.ch k1 v1
  obtain ⟨M2, e2, k2, v2⟩ := cuM (o := o) (M := M1) ht (99996 + 1 + 1) (show 1 < 3 by omega) (show c1S p a < 48 by omega) h1.1.2.2.1
  have h2 := h1.ch k2 v2
  obtain ⟨M3, e3, k3, v3⟩ := cuM (o := o) (M := M2) ht (99996 + 1) (show 2 < 3 by omega) (show c2S p a < 48 by omega) h2.1.2.2.2.1
  rw [e1, e2, e3, fX10_learnCorrector_67, if_pos (by decide)]
  exact ⟨M3, rfl, k1.tr (k2.tr k3), by rw [v3, v2, v1, h.2.2.1]⟩
theorem crM (ht : t = 0 ∨ t = 1) (h : SM cf g0 gc p a o M) : ∃ M', fX10_learnCorrector o t M = some M' ∧ ChM o M M' ∧ vM o M' = crS gc (c0S cf g0 p a) (c1S p a) (c2S p a) (fsS cf g0 p a) (toS cf g0 p a) (sdS cf g0 p a) t := by
  have k44 : ∀ (MM : Mem) (gg : GS), SM cf g0 gg p a o MM → ∃ M', fX10_learnCorrector_44 o t MM = some M' ∧ ChM o MM M' ∧ vM o M' = (if sdS cf g0 p a = t ∧ 12 ≤ ab (toS cf g0 p a) then gg else cuS (cuS (cuS gg (c0S cf g0 p a) (if t = 1 then 1 else -1)) (c1S p a) (if t = 1 then 1 else -1)) (c2S p a) (if t = 1 then 1 else -1)) := by
    intro MM gg hS
    unfold fX10_learnCorrector_44
    rw [hS.1.2.2.2.2.2.1, hS.1.2.2.2.2.1, show (if (0 : Int32) ≤ toS cf g0 p a then toS cf g0 p a else 0 - toS cf g0 p a) = ab (toS cf g0 p a) from rfl]
    by_cases e : sdS cf g0 p a = t
    · rw [if_pos e]
      by_cases h12 : ab (toS cf g0 p a) < 12
      · rw [if_pos h12, if_neg (fun z => by rw [i32_le_nlt] at z; exact z.2 h12)]
        exact cu3M ht hS
      · rw [if_neg h12, if_pos ⟨e, by rw [i32_le_nlt]; exact h12⟩]
        exact ⟨MM, rfl, ChM.rf, hS.2.2.1⟩
    · rw [if_neg e, if_neg (fun z => e z.1)]
      exact cu3M ht hS
  have lim : ∀ x : Int32, x = gc 13 0 + (if sdS cf g0 p a = t then -1 else 1) → ∃ M', fX10_learnCorrector_35 o t o x M = some M' ∧ ChM o M M' ∧ vM o M' = (if sdS cf g0 p a = t ∧ 12 ≤ ab (toS cf g0 p a) then gs gc 13 (bd (gc 13 0 + (if sdS cf g0 p a = t then -1 else 1)) 1 15) else cuS (cuS (cuS (gs gc 13 (bd (gc 13 0 + (if sdS cf g0 p a = t then -1 else 1)) 1 15)) (c0S cf g0 p a) (if t = 1 then 1 else -1)) (c1S p a) (if t = 1 then 1 else -1)) (c2S p a) (if t = 1 then 1 else -1)) := by
    intro x hx
    unfold fX10_learnCorrector_35
    rw [btM, bI_s, hx]
    have cw : ChM o M (pI M o 39 (bd (gc 13 0 + (if sdS cf g0 p a = t then -1 else 1)) 1 15)) := ChM.o (by omega)
    have vw : vM o (pI M o 39 (bd (gc 13 0 + (if sdS cf g0 p a = t then -1 else 1)) 1 15)) = gs gc 13 (bd (gc 13 0 + (if sdS cf g0 p a = t then -1 else 1)) 1 15) := by rw [vm_13, h.2.2.1]
    obtain ⟨M', e, c, v⟩ := k44 _ _ (h.ch cw vw)
    exact ⟨M', e, cw.tr c, v⟩
  unfold fX10_learnCorrector
  rw [h.1.2.2.2.2.2.1, h.1.1.2.2.2.2.2.2.2, show M.1 o 39 = gc 13 0 from by rw [← h.2.2.1]; rfl]
  simp only [crS]
  by_cases hsf : sdS cf g0 p a = fsS cf g0 p a
  · rw [if_pos hsf, if_pos hsf]
    exact k44 M gc h
  · rw [if_neg hsf, if_neg hsf]
    by_cases e : sdS cf g0 p a = t
    · rw [if_pos e]
      exact lim _ (by rw [if_pos e, sub1])
    · rw [if_neg e]
      exact lim _ (by rw [if_neg e])
theorem cntM (hc : CfgOk cf) (ha : a < 64) (ht : t = 0 ∨ t = 1) (h : SM cf g0 gc p a o M) {tb : Nat} (hb : tb ≤ cf 3) : ∃ M', fX10_learnCount o (nI tb) t M = some M' ∧ ChM o M M' ∧ vM o M' = mvS cf gc p a tb t := by
  have h5 := hc.2.2.2.1
  unfold fX10_learnCount mvS
  rw [h.1.1.1, tk1 ht]
  by_cases h0 : tb = 0
  · subst h0
    rw [if_pos (show nI 0 = 0 from rfl), if_pos rfl, show irm (nI a) 16 = nI (a % 16) from pk_rem (a := a) (d := 16) (by omega) (by omega) (by omega), ib_n (show a % 16 < 16 by omega) (by omega), tn_n (by omega), ck_t, btM, bI_s, ck_t, show M.1 (o + 16) (a % 16) = gc 3 (a % 16) from by rw [← h.2.2.1]; rfl]
    exact ⟨_, rfl, ChM.c (by omega), by rw [vm_3, h.2.2.1]⟩
  · have hpl := pl_lt hc p a (show 1 ≤ tb by omega) hb
    rw [if_neg (nI_ne0 (by omega) (by omega)), if_neg h0, ib_n (show tb < 6 by omega) (by omega), tn_n (by omega), ck_t, ck_t, (h.1.1.2.1 tb (by omega) (by omega)).1, ib_n hpl (by omega), tn_n (by omega), ck_t, btM, bI_s, ck_t, show M.1 (o + 14) (plS cf p a tb) = gc 1 (plS cf p a tb) from by rw [← h.2.2.1]; rfl]
    exact ⟨_, rfl, ChM.c (by omega), by rw [vm_1, h.2.2.1]⟩
theorem halveM : ∀ (m i f : Nat) (M0 M1 : Mem), i + m = 80 → m < f → ChM o M0 M1 → vM o M1 = (fun x k => if x = 2 ∧ k < i then vM o M0 x k / 2 else vM o M0 x k) → ∃ M', fX10_halve_2 f o (nI i) M1 = some M' ∧ ChM o M0 M' ∧ vM o M' = haS (vM o M0) := by
  intro m
  induction m with
  | zero =>
    intro i f M0 M1 hi hf hC hv
    obtain ⟨f, rfl⟩ : ∃ z, f = z + 1 := ⟨f - 1, by omega⟩
    have : i = 80 := by omega
    subst this
    rw [fX10_halve_2, if_pos (by decide)]
    refine ⟨_, rfl, hC.tr ((ChM.o (by omega)).tr (ChM.o (by omega))), ?_⟩
    rw [vm_12, vm_11, hv, show (pI M1 o 38 0).1 o 40 = vM o M0 12 0 from by
      rw [pI_1, if_pos rfl, if_neg (by omega)]
      have : vM o M1 12 0 = vM o M0 12 0 := by rw [hv]; simp
      exact this]
    rfl
  | succ m ih =>
    intro i f M0 M1 hi hf hC hv
    obtain ⟨f, rfl⟩ : ∃ z, f = z + 1 := ⟨f - 1, by omega⟩
    rw [fX10_halve_2, if_neg (by rw [show (80 : Int32) = nI 80 from rfl]; exact nI_ge (by omega) (by omega)), ib_n (show i < 80 by omega) (by omega), tn_n (by omega), ck_t, ck_t, nI_1]
    refine ih (i + 1) f M0 _ (by omega) (by omega) (hC.tr (ChM.c (by omega))) ?_
    rw [vm_2, show M1.1 (o + 15) i = vM o M0 2 i from by
      have : vM o M1 2 i = vM o M0 2 i := by rw [hv]; simp
      exact this]
    funext x k
    rw [hv]
    simp only [gu]
    by_cases h1 : x = 2
    · subst h1
      by_cases h2 : k = i
      · subst h2; simp
      · by_cases h3 : k < i
        · simp [h2, h3, show k < i + 1 by omega]
        · simp [h2, h3, show ¬ k < i + 1 by omega]
    · simp [h1]
theorem outM (hc : CfgOk cf) (h : SM cf g0 gc p a o M) {k : Nat} (hk : k ≤ 5) : nI k = M.1 o 26 ↔ k = cf 4 := by
  rw [h.2.1.2.2.2.2.1]
  have := hc.2.2.2.2.1
  exact nI_eq (by omega) (by omega)
theorem strainM (hc : CfgOk cf) : ∀ (m k f : Nat) (M1 : Mem) (gg : GS), k + m = cf 3 + 1 → 1 ≤ k → m < f → SM cf g0 gg p a o M1 → ∃ M', fX10_takeRow_113 f o (nI k) M1 = some M' ∧ ChM o M1 M' ∧ vM o M' = stS cf (dcS cf p a gg k m) := by
  have h5 := hc.2.2.2.1
  intro m
  induction m with
  | zero =>
    intro k f M1 gg hk h1 hf hS
    obtain ⟨f, rfl⟩ : ∃ z, f = z + 1 := ⟨f - 1, by omega⟩
    rw [fX10_takeRow_113, tablesM, bI_s, hS.2.1.2.2.2.1, if_pos (nI_lt (by omega) (by omega)), show ib (2 : Int32) 215 = true from by decide, ck_t, show tn (2 : Int32) = 2 from by decide, dcS, show M1.1 o 38 = gg 11 0 from by rw [← hS.2.2.1]; rfl, show (pI M1 o 38 (gg 11 0 + 1)).1 o 38 = gg 11 0 + 1 from by rw [pI_1]; simp, show (pI M1 o 38 (gg 11 0 + 1)).1 (o + 1) 2 = nI (cf 2) from by rw [(pI_o (o + 1) (by omega)).1]; exact hS.2.1.2.2.1]
    have cw : ChM o M1 (pI M1 o 38 (gg 11 0 + 1)) := ChM.o (by omega)
    have vw : vM o (pI M1 o 38 (gg 11 0 + 1)) = gs gg 11 (gg 11 0 + 1) := by rw [vm_11, hS.2.2.1]
    unfold stS
    by_cases hA : gg 11 0 + 1 = nI (cf 2)
    · rw [if_pos hA, if_pos hA]
      obtain ⟨M', e, c, v⟩ := halveM (o := o) 80 0 LF (pI M1 o 38 (gg 11 0 + 1)) (pI M1 o 38 (gg 11 0 + 1)) (by omega) (by unfold LF; omega) ChM.rf (by funext x k; simp)
      unfold fX10_halve
      rw [show (0 : Int32) = nI 0 from rfl, e, bV_s]
      exact ⟨M', rfl, cw.tr c, by rw [v, vw]⟩
    · rw [if_neg hA, if_neg hA]
      exact ⟨_, rfl, cw, vw⟩
  | succ m ih =>
    intro k f M1 gg hk h1 hf hS
    obtain ⟨f, rfl⟩ : ∃ z, f = z + 1 := ⟨f - 1, by omega⟩
    rw [fX10_takeRow_113, tablesM, bI_s, hS.2.1.2.2.2.1, if_neg (nI_nlt (by omega) (by omega)), dcS]
    by_cases ho : k = cf 4
    · rw [if_pos ((outM hc hS (by omega)).mpr ho), if_pos ho]
      unfold fX10_takeRow_144
      rw [nI_1]
      exact ih (k + 1) f M1 gg (by omega) (by omega) (by omega) hS
    · have hpl := pl_lt hc p a h1 (show k ≤ cf 3 by omega)
      rw [if_neg (fun e => ho ((outM hc hS (by omega)).mp e)), if_neg ho, ib_n (show k < 6 by omega) (by omega), tn_n (by omega), ck_t, (hS.1.1.2.1 k h1 (by omega)).1, ib_n hpl (by omega), tn_n (by omega), ck_t, ck_t]
      unfold fX10_takeRow_144
      rw [nI_1, show M1.1 (o + 15) (plS cf p a k) = gg 2 (plS cf p a k) from by rw [← hS.2.2.1]; rfl]
      have cw : ChM o M1 (pI M1 (o + 15) (plS cf p a k) (gg 2 (plS cf p a k) - 1)) := ChM.c (by omega)
      obtain ⟨M', e, c, v⟩ := ih (k + 1) f _ _ (by omega) (by omega) (by omega) (hS.ch cw (by rw [vm_2, hS.2.2.1]))
      exact ⟨M', e, cw.tr c, v⟩
theorem takeLoopM (hc : CfgOk cf) (ht : t = 0 ∨ t = 1) (hT : GT gc) (h : SM cf g0 gc p a o M) : ∀ (m k f n : Nat), k + m = cf 3 + 1 → 1 ≤ k → m < f → n + m ≤ 5 →
    (frS cf gc p a k m = 0 → fX10_takeRow_9 f o t (nI n) (nI k) M = (if (decide (0 < n) || exS cf k m) = true then fX10_takeRow_113 LF o (M.1 o 45 + 1) M else some M)) ∧
    (¬ frS cf gc p a k m = 0 → ∃ M', fX10_takeRow_9 f o t (nI n) (nI k) M = some M' ∧ ChM o M M' ∧ vM o M' = gu (gu gc 0 (plS cf p a (frS cf gc p a k m)) (nI (tgS cf p a (frS cf gc p a k m)))) 1 (plS cf p a (frS cf gc p a k m)) (if t = 1 then 0 else -1)) := by
  have h5 := hc.2.2.2.1
  intro m
  induction m with
  | zero =>
    intro k f n hk h1 hf hn
    obtain ⟨f, rfl⟩ : ∃ z, f = z + 1 := ⟨f - 1, by omega⟩
    refine ⟨fun _ => ?_, fun z => absurd rfl z⟩
    rw [fX10_takeRow_9, tablesM, bI_s, h.2.1.2.2.2.1, if_pos (nI_lt (by omega) (by omega))]
    by_cases hn0 : n = 0
    · subst hn0; rw [if_pos (show nI 0 = 0 from rfl)]; rfl
    · rw [if_neg (nI_ne0 (by omega) (by omega)), if_pos (by simp; omega)]
  | succ m ih =>
    intro k f n hk h1 hf hn
    obtain ⟨f, rfl⟩ : ∃ z, f = z + 1 := ⟨f - 1, by omega⟩
    rw [fX10_takeRow_9, tablesM, bI_s, h.2.1.2.2.2.1, if_neg (nI_nlt (by omega) (by omega)), frS, exS]
    by_cases ho : k = cf 4
    · rw [if_pos ((outM hc h (by omega)).mpr ho), if_pos ho, if_pos ho]
      unfold fX10_takeRow_95
      rw [nI_1]
      exact ih (k + 1) f n (by omega) (by omega) (by omega) (by omega)
    · have hpl := pl_lt hc p a h1 (show k ≤ cf 3 by omega)
      obtain ⟨g1, g2, g3⟩ := hT _ hpl
      rw [if_neg (fun e => ho ((outM hc h (by omega)).mp e)), if_neg ho, if_neg ho, ib_n (show k < 6 by omega) (by omega), tn_n (by omega), ck_t, (h.1.1.2.1 k h1 (by omega)).1, ib_n hpl (by omega), tn_n (by omega), ck_t, show M.1 (o + 13) (plS cf p a k) = gc 0 (plS cf p a k) from by rw [← h.2.2.1]; rfl, ck_t, show M.1 (o + 15) (plS cf p a k) = gc 2 (plS cf p a k) from by rw [← h.2.2.1]; rfl]
      have take : gc 2 (plS cf p a k) = 0 → ∃ M', fX10_takeRow_63 o t (nI k) (nI (plS cf p a k)) M = some M' ∧ ChM o M M' ∧ vM o M' = gu (gu gc 0 (plS cf p a k) (nI (tgS cf p a k))) 1 (plS cf p a k) (if t = 1 then 0 else -1) := by
        intro hz
        unfold fX10_takeRow_63
        rw [ib_n (show k < 6 by omega) (by omega), ib_n hpl (by omega), tn_n (show k < 2 ^ 31 by omega), tn_n (by omega)]
        simp only [ck_t]
        rw [(h.1.1.2.1 k h1 (by omega)).2, tk3 ht]
        refine ⟨_, rfl, ((ChM.c (by omega)).tr (ChM.c (by omega))).tr (ChM.c (by omega)), ?_⟩
        rw [vm_2, vm_1, vm_0, h.2.2.1]
        exact gu_idle _ _ _ (by simp [gu]; exact hz)
      by_cases hu : gc 2 (plS cf p a k) = 0
      · rw [if_pos hu]
        refine ⟨fun z => absurd z (by omega), fun _ => ?_⟩
        by_cases hneg : gc 0 (plS cf p a k) = -1
        · rw [if_pos hneg]; exact take hu
        · rw [if_neg hneg, if_pos (by rw [hu]; decide)]; exact take hu
      · have hneg : ¬ gc 0 (plS cf p a k) = -1 := fun z => hu (g3 z)
        have hpos : ¬ gc 2 (plS cf p a k) ≤ 0 := by
          rw [fa_le, i_0]
          intro z
          exact hu (Int32.toInt_inj.mp (by rw [i_0]; omega))
        rw [if_neg hu, if_neg hneg, if_neg hpos]
        unfold fX10_takeRow_95
        rw [nI_1, nI_1]
        have hh := ih (k + 1) f (n + 1) (by omega) (by omega) (by omega) (by omega)
        refine ⟨fun z => ?_, hh.2⟩
        rw [hh.1 z]
        simp
theorem takeM (hc : CfgOk cf) (ht : t = 0 ∨ t = 1) (hT : GT gc) (h : SM cf g0 gc p a o M) : ∃ M', fX10_takeRow o t M = some M' ∧ ChM o M M' ∧ vM o M' = tkS cf gc p a (pvS cf g0 p a) t := by
  have h5 := hc.2.2.2.1
  have hle := pv_le cf g0 p a
  unfold fX10_takeRow
  rw [h.1.1.2.2.1, nI_1, show (0 : Int32) = nI 0 from rfl]
  simp only [tkS]
  obtain ⟨l1, l2⟩ := takeLoopM (t := t) hc ht hT h (cf 3 - pvS cf g0 p a) (pvS cf g0 p a + 1) LF 0 (by omega) (by omega) (by unfold LF; omega) (by omega)
  by_cases hf : frS cf gc p a (pvS cf g0 p a + 1) (cf 3 - pvS cf g0 p a) = 0
  · rw [l1 hf, if_pos hf]
    rw [show (decide (0 < 0) || exS cf (pvS cf g0 p a + 1) (cf 3 - pvS cf g0 p a)) = exS cf (pvS cf g0 p a + 1) (cf 3 - pvS cf g0 p a) from by simp]
    by_cases he : exS cf (pvS cf g0 p a + 1) (cf 3 - pvS cf g0 p a) = true
    · rw [if_pos he, if_pos he, h.1.1.2.2.1, nI_1]
      exact strainM hc (cf 3 - pvS cf g0 p a) (pvS cf g0 p a + 1) LF M gc (by omega) (by omega) (by unfold LF; omega) h
    · rw [if_neg he, if_neg he]
      exact ⟨M, rfl, ChM.rf, h.2.2.1⟩
  · rw [if_neg hf]
    exact l2 hf
theorem past1M {n : Nat} (hn : n < 2 ^ 40) (ht : t = 0 ∨ t = 1) : ((lN n <<< ((1 : Int32).toInt64 &&& 63)) ||| t.toInt64) &&& 1099511627775 = lN (paS n t) := by
  rw [past1 ht, Nat.mod_eq_of_lt (by split <;> omega)]
  exact lN_mask (k := 40)
end LearnM
theorem learnM {cf : Cfg} (hc : CfgOk cf) {g : GS} {p a o : Nat} {t : Int32} {M : Mem} (ha : a < 64) (ht : t = 0 ∨ t = 1) (hI : GI g) (hG : GM cf g p o M) (hA : AM cf g p a o M) :
    ∃ M1, fX10_learn o t M = some M1 ∧ GM cf (lnS cf g p a t) (paS p t) o M1 ∧ (∀ c, ¬ c = o → ¬ (o + 13 ≤ c ∧ c ≤ o + 22) → M1.1 c = M.1 c) ∧ (∀ k, ¬ (37 ≤ k ∧ k ≤ 40) → M1.1 o k = M.1 o k) ∧ (∀ c k, ¬ (c = o ∧ k = 41) → M1.2 c k = M.2 c k) := by
  have h5 := hc.2.2.2.1
  have hpar := hc.2.2.2.2.2.1
  have hle := pv_le cf g p a
  obtain ⟨hT, hL⟩ := (GI_iff g).mp hI
  obtain ⟨hK, hv, hp, hp40⟩ := hG
  have hS : SM cf g g p a o M := ⟨hA, hK, hv, hp⟩
  have k192 : ∀ (MM : Mem) (gg : GS), SM cf g gg p a o MM → ∃ M1, fX10_learn_192 o t MM = some M1 ∧ GM cf gg (paS p t) o M1 ∧ (∀ c, ¬ c = o → ¬ (o + 13 ≤ c ∧ c ≤ o + 22) → M1.1 c = MM.1 c) ∧ (∀ k, ¬ (37 ≤ k ∧ k ≤ 40) → M1.1 o k = MM.1 o k) ∧ (∀ c k, ¬ (c = o ∧ k = 41) → M1.2 c k = MM.2 c k) := by
    intro MM gg hSS
    unfold fX10_learn_192
    rw [hSS.2.2.2, past1M hp40 ht]
    refine ⟨_, rfl, ⟨hSS.2.1, hSS.2.2.1, by rw [pL_2]; simp, Nat.mod_lt _ (by omega)⟩, fun _ _ _ => rfl, fun _ _ => rfl, fun c k hck => ?_⟩
    rw [pL_2]
    by_cases e : c = o
    · rw [if_pos e, if_neg (fun z => hck ⟨e, z⟩)]
    · rw [if_neg e]
  have k179 : ∀ (MM : Mem) (gg : GS), GT gg → SM cf g gg p a o MM → ∃ M1, fX10_learn_179 o t MM = some M1 ∧ GM cf (t5S cf g gg p a t) (paS p t) o M1 ∧ (∀ c, ¬ c = o → ¬ (o + 13 ≤ c ∧ c ≤ o + 22) → M1.1 c = MM.1 c) ∧ (∀ k, ¬ (37 ≤ k ∧ k ≤ 40) → M1.1 o k = MM.1 o k) ∧ (∀ c k, ¬ (c = o ∧ k = 41) → M1.2 c k = MM.2 c k) := by
    intro MM gg hTT hSS
    unfold fX10_learn_179 t5S
    rw [hSS.1.1.2.2.2.2.2.2.2]
    by_cases hf : fsS cf g p a = t
    · rw [if_pos hf, if_pos hf]; exact k192 MM gg hSS
    · rw [if_neg hf, if_neg hf]
      obtain ⟨M2, e2, c2, v2⟩ := takeM (t := t) hc ht hTT hSS
      rw [e2, bV_s]
      obtain ⟨M1, f1, f2, f3, f4, f5⟩ := k192 M2 _ (hSS.ch c2 v2)
      exact ⟨M1, f1, f2, fun c x y => (f3 c x y).trans (c2.1 c x y), fun k hk => (f4 k hk).trans (c2.2.1 k hk), fun c k hk => (f5 c k hk).trans (by rw [c2.2.2])⟩
  have k154 : ∀ (MM : Mem) (gg : GS), GT gg → SM cf g gg p a o MM → ∃ M1, fX10_learn_154 o t MM = some M1 ∧ GM cf (t5S cf g (t4S cf g (t3S cf g gg p a t) p a t) p a t) (paS p t) o M1 ∧ (∀ c, ¬ c = o → ¬ (o + 13 ≤ c ∧ c ≤ o + 22) → M1.1 c = MM.1 c) ∧ (∀ k, ¬ (37 ≤ k ∧ k ≤ 40) → M1.1 o k = MM.1 o k) ∧ (∀ c k, ¬ (c = o ∧ k = 41) → M1.2 c k = MM.2 c k) := by
    intro MM gg hTT hSS
    unfold fX10_learn_154
    rw [hSS.1.1.2.2.1]
    obtain ⟨M2, e2, c2, v2⟩ := cntM (t := t) hc ha ht hSS hle
    have hS2 := hSS.ch c2 v2
    have hT2 : GT (mvS cf gg p a (pvS cf g p a) t) := hTT.cg (mv_row _ _ _ _ _ _ (by omega) (by omega)) (mv_row _ _ _ _ _ _ (by omega) (by omega))
    rw [e2, bV_s, hS2.1.1.2.2.2.2.2.2.1, hS2.1.1.2.2.2.1]
    unfold t4S t3S
    by_cases hw : wkS cf g p a = true
    · rw [if_neg (by rw [wkI_0, hw]; simp), if_pos hw]
      obtain ⟨M3, e3, c3, v3⟩ := cntM (t := t) hc ha ht hS2 (at_le cf g p a)
      rw [e3, bV_s]
      have c23 := c2.tr c3
      obtain ⟨M1, f1, f2, f3, f4, f5⟩ := k179 M3 _ (hT2.cg (mv_row _ _ _ _ _ _ (by omega) (by omega)) (mv_row _ _ _ _ _ _ (by omega) (by omega))) (hS2.ch c3 v3)
      exact ⟨M1, f1, f2, fun c x y => (f3 c x y).trans (c23.1 c x y), fun k hk => (f4 k hk).trans (c23.2.1 k hk), fun c k hk => (f5 c k hk).trans (by rw [c23.2.2])⟩
    · rw [if_pos (by rw [wkI_0]; simpa using hw), if_neg hw]
      obtain ⟨M1, f1, f2, f3, f4, f5⟩ := k179 M2 _ hT2 hS2
      exact ⟨M1, f1, f2, fun c x y => (f3 c x y).trans (c2.1 c x y), fun k hk => (f4 k hk).trans (c2.2.1 k hk), fun c k hk => (f5 c k hk).trans (by rw [c2.2.2])⟩
  have k95 : ∀ (MM : Mem) (gg : GS) (b : Bool), b = !decide (syS cf g p a (pvS cf g p a) = syS cf g p a (atS cf g p a)) → GT gg → gg 0 = g 0 → SM cf g gg p a o MM → ∃ M1, fX10_learn_95 o t (wkI b) MM = some M1 ∧ GM cf (t5S cf g (t4S cf g (t3S cf g (t2S cf g gg p a t) p a t) p a t) p a t) (paS p t) o M1 ∧ (∀ c, ¬ c = o → ¬ (o + 13 ≤ c ∧ c ≤ o + 22) → M1.1 c = MM.1 c) ∧ (∀ k, ¬ (37 ≤ k ∧ k ≤ 40) → M1.1 o k = MM.1 o k) ∧ (∀ c k, ¬ (c = o ∧ k = 41) → M1.2 c k = MM.2 c k) := by
    intro MM gg b hb hTT e0 hSS
    have hT2 := t2_t (t := t) (p := p) (a := a) hc hTT e0
    unfold fX10_learn_95
    rw [hSS.1.1.2.2.1, ib_n (show pvS cf g p a < 6 by omega) (by omega), ck_t, tn_n (by omega)]
    unfold t2S at hT2 ⊢
    by_cases h0 : pvS cf g p a = 0
    · rw [if_pos (by rw [h0]; decide), if_neg (by simp [h0])]
      exact k154 MM gg hTT hSS
    · rw [if_neg (nI_nle (by omega) (by omega))]
      cases b with
      | false =>
        rw [if_pos (show wkI false = 0 from rfl), if_neg (by rw [← hb]; simp)]
        exact k154 MM gg hTT hSS
      | true =>
        have hcd : (decide (0 < pvS cf g p a) && !decide (syS cf g p a (pvS cf g p a) = syS cf g p a (atS cf g p a))) = true := by rw [← hb]; simp; omega
        have hpl := pl_lt hc p a (show 1 ≤ pvS cf g p a by omega) hle
        rw [if_pos hcd] at hT2 ⊢
        rw [if_neg (show ¬ wkI true = 0 by decide), hSS.1.1.2.2.2.2.1, (hSS.1.1.2.1 (pvS cf g p a) (by omega) (by omega)).1, ib_n hpl (by omega), ck_t, ck_t, tn_n (by omega), show MM.1 (o + 15) (plS cf p a (pvS cf g p a)) = gg 2 (plS cf p a (pvS cf g p a)) from by rw [← hSS.2.2.1]; rfl]
        have u : ∀ x : Int32, x = gg 2 (plS cf p a (pvS cf g p a)) + (if syS cf g p a (pvS cf g p a) = t then 1 else -1) → ∃ M1, fX10_learn_148 o t (o + 15) (nI (plS cf p a (pvS cf g p a))) x MM = some M1 ∧ GM cf (t5S cf g (t4S cf g (t3S cf g (gu gg 2 (plS cf p a (pvS cf g p a)) (bd (gg 2 (plS cf p a (pvS cf g p a)) + (if syS cf g p a (pvS cf g p a) = t then 1 else -1)) 0 3)) p a t) p a t) p a t) (paS p t) o M1 ∧ (∀ c, ¬ c = o → ¬ (o + 13 ≤ c ∧ c ≤ o + 22) → M1.1 c = MM.1 c) ∧ (∀ k, ¬ (37 ≤ k ∧ k ≤ 40) → M1.1 o k = MM.1 o k) ∧ (∀ c k, ¬ (c = o ∧ k = 41) → M1.2 c k = MM.2 c k) := by
          intro x hx
          unfold fX10_learn_148
          rw [btM, bI_s, ib_n hpl (by omega), ck_t, tn_n (by omega), hx]
          have cw : ChM o MM (pI MM (o + 15) (plS cf p a (pvS cf g p a)) (bd (gg 2 (plS cf p a (pvS cf g p a)) + (if syS cf g p a (pvS cf g p a) = t then 1 else -1)) 0 3)) := ChM.c (by omega)
          obtain ⟨M1, f1, f2, f3, f4, f5⟩ := k154 _ _ hT2 (hSS.ch cw (by rw [vm_2, hSS.2.2.1]))
          exact ⟨M1, f1, f2, fun c x y => (f3 c x y).trans (cw.1 c x y), fun k hk => (f4 k hk).trans (cw.2.1 k hk), fun c k hk => (f5 c k hk).trans (by rw [cw.2.2])⟩
        by_cases hd : syS cf g p a (pvS cf g p a) = t
        · rw [if_pos hd]; exact u _ (by rw [if_pos hd])
        · rw [if_neg hd]; exact u _ (by rw [if_neg hd, sub1])
  have k42 : ∀ (MM : Mem) (gg : GS) (b : Bool), b = !decide (syS cf g p a (pvS cf g p a) = syS cf g p a (atS cf g p a)) → GT gg → gg 0 = g 0 → SM cf g gg p a o MM → ∃ M1, fX10_learn_42 o t (wkI b) MM = some M1 ∧ GM cf (t5S cf g (t4S cf g (t3S cf g (t2S cf g (t1S cf g gg p a t) p a t) p a t) p a t) p a t) (paS p t) o M1 ∧ (∀ c, ¬ c = o → ¬ (o + 13 ≤ c ∧ c ≤ o + 22) → M1.1 c = MM.1 c) ∧ (∀ k, ¬ (37 ≤ k ∧ k ≤ 40) → M1.1 o k = MM.1 o k) ∧ (∀ c k, ¬ (c = o ∧ k = 41) → M1.2 c k = MM.2 c k) := by
    intro MM gg b hb hTT e0 hSS
    unfold fX10_learn_42
    rw [show (4 : Int32) = nI 4 from rfl, hasM hSS.2.1.2.2.2.2.2.1 hpar, bI_s, hSS.1.1.2.2.2.2.2.2.1]
    unfold t1S
    by_cases h4 : hs cf 4 = true
    · rw [if_neg (by rw [wkI_0, h4]; simp)]
      by_cases hw : wkS cf g p a = true
      · rw [if_neg (by rw [wkI_0, hw]; simp)]
        cases b with
        | false =>
          rw [if_pos (show wkI false = 0 from rfl), if_neg (by rw [← hb]; simp)]
          exact k95 MM gg false hb hTT e0 hSS
        | true =>
          have hcd : (hs cf 4 && (wkS cf g p a && !decide (syS cf g p a (pvS cf g p a) = syS cf g p a (atS cf g p a)))) = true := by rw [← hb, h4, hw]; rfl
          rw [if_neg (show ¬ wkI true = 0 by decide), if_pos hcd, hSS.1.1.2.2.2.2.2.1, show MM.1 o 37 = gg 10 0 from by rw [← hSS.2.2.1]; rfl]
          have u : ∀ x : Int32, x = gg 10 0 + (if syS cf g p a (atS cf g p a) = t then 1 else -1) → ∃ M1, fX10_learn_86 o t (wkI true) o x MM = some M1 ∧ GM cf (t5S cf g (t4S cf g (t3S cf g (t2S cf g (gs gg 10 (bd (gg 10 0 + (if syS cf g p a (atS cf g p a) = t then 1 else -1)) 0 15)) p a t) p a t) p a t) p a t) (paS p t) o M1 ∧ (∀ c, ¬ c = o → ¬ (o + 13 ≤ c ∧ c ≤ o + 22) → M1.1 c = MM.1 c) ∧ (∀ k, ¬ (37 ≤ k ∧ k ≤ 40) → M1.1 o k = MM.1 o k) ∧ (∀ c k, ¬ (c = o ∧ k = 41) → M1.2 c k = MM.2 c k) := by
            intro x hx
            unfold fX10_learn_86
            rw [btM, bI_s, hx]
            have cw : ChM o MM (pI MM o 37 (bd (gg 10 0 + (if syS cf g p a (atS cf g p a) = t then 1 else -1)) 0 15)) := ChM.o (by omega)
            obtain ⟨M1, f1, f2, f3, f4, f5⟩ := k95 _ (gs gg 10 (bd (gg 10 0 + (if syS cf g p a (atS cf g p a) = t then 1 else -1)) 0 15)) true hb (hTT.cg (gs_row _ _ _ (by omega)) (gs_row _ _ _ (by omega))) (by rw [gs_row _ _ _ (by omega)]; exact e0) (hSS.ch cw (by rw [vm_10, hSS.2.2.1]))
            exact ⟨M1, f1, f2, fun c x y => (f3 c x y).trans (cw.1 c x y), fun k hk => (f4 k hk).trans (cw.2.1 k hk), fun c k hk => (f5 c k hk).trans (by rw [cw.2.2])⟩
          by_cases hd : syS cf g p a (atS cf g p a) = t
          · rw [if_pos hd]; exact u _ (by rw [if_pos hd])
          · rw [if_neg hd]; exact u _ (by rw [if_neg hd, sub1])
      · rw [if_pos (by rw [wkI_0]; simpa using hw), if_neg (by simp [hw])]; exact k95 MM gg b hb hTT e0 hSS
    · rw [if_pos (by rw [wkI_0]; simpa using h4), if_neg (by simp [h4])]; exact k95 MM gg b hb hTT e0 hSS
  have k26 : ∀ (MM : Mem) (gg : GS), GT gg → gg 0 = g 0 → SM cf g gg p a o MM → ∃ M1, fX10_learn_26 o t MM = some M1 ∧ GM cf (t5S cf g (t4S cf g (t3S cf g (t2S cf g (t1S cf g gg p a t) p a t) p a t) p a t) p a t) (paS p t) o M1 ∧ (∀ c, ¬ c = o → ¬ (o + 13 ≤ c ∧ c ≤ o + 22) → M1.1 c = MM.1 c) ∧ (∀ k, ¬ (37 ≤ k ∧ k ≤ 40) → M1.1 o k = MM.1 o k) ∧ (∀ c k, ¬ (c = o ∧ k = 41) → M1.2 c k = MM.2 c k) := by
    intro MM gg hTT e0 hSS
    unfold fX10_learn_26
    rw [hSS.1.1.2.2.2.2.1, hSS.1.1.2.2.2.2.2.1]
    by_cases hq : syS cf g p a (pvS cf g p a) = syS cf g p a (atS cf g p a)
    · rw [if_pos hq]; exact k42 MM gg false (by simp [hq]) hTT e0 hSS
    · rw [if_neg hq]; exact k42 MM gg true (by simp [hq]) hTT e0 hSS
  have k13 : ∀ (MM : Mem) (gg : GS), gg 0 = g 0 → gg 2 = g 2 → SM cf g gg p a o MM → ∃ M1, fX10_learn_13 o t MM = some M1 ∧ GM cf (t5S cf g (t4S cf g (t3S cf g (t2S cf g (t1S cf g (if hs cf 2 = true then crS gg (c0S cf g p a) (c1S p a) (c2S p a) (fsS cf g p a) (toS cf g p a) (sdS cf g p a) t else gg) p a t) p a t) p a t) p a t) p a t) (paS p t) o M1 ∧ (∀ c, ¬ c = o → ¬ (o + 13 ≤ c ∧ c ≤ o + 22) → M1.1 c = MM.1 c) ∧ (∀ k, ¬ (37 ≤ k ∧ k ≤ 40) → M1.1 o k = MM.1 o k) ∧ (∀ c k, ¬ (c = o ∧ k = 41) → M1.2 c k = MM.2 c k) := by
    intro MM gg e0 e2 hSS
    unfold fX10_learn_13
    rw [show (2 : Int32) = nI 2 from rfl, hasM hSS.2.1.2.2.2.2.2.1 hpar, bI_s]
    by_cases h2 : hs cf 2 = true
    · rw [if_neg (by rw [wkI_0, h2]; simp), if_pos h2]
      obtain ⟨M2, q2, c2, v2⟩ := crM ht hSS
      rw [q2, bV_s]
      obtain ⟨M1, f1, f2, f3, f4, f5⟩ := k26 M2 _ (hT.cg (by rw [cr_row _ _ _ _ _ _ _ _ (by omega) (by omega)]; exact e0) (by rw [cr_row _ _ _ _ _ _ _ _ (by omega) (by omega)]; exact e2)) (by rw [cr_row _ _ _ _ _ _ _ _ (by omega) (by omega)]; exact e0) (hSS.ch c2 v2)
      exact ⟨M1, f1, f2, fun c x y => (f3 c x y).trans (c2.1 c x y), fun k hk => (f4 k hk).trans (c2.2.1 k hk), fun c k hk => (f5 c k hk).trans (by rw [c2.2.2])⟩
    · rw [if_pos (by rw [wkI_0]; simpa using h2), if_neg h2]
      exact k26 MM gg (hT.cg e0 e2) e0 hSS
  unfold fX10_learn
  rw [show (1 : Int32) = nI 1 from rfl, hasM hK.2.2.2.2.2.1 hpar, bI_s]
  simp only [lnS]
  by_cases h1 : hs cf 1 = true
  · rw [if_neg (by rw [wkI_0, h1]; simp), if_pos h1]
    obtain ⟨M2, q2, c2, v2⟩ := lpM (t := t) ha ht hL hS
    rw [q2, bV_s]
    obtain ⟨M1, f1, f2, f3, f4, f5⟩ := k13 M2 _ (lp_row _ _ _ _ (by omega)) (lp_row _ _ _ _ (by omega)) (hS.ch c2 v2)
    exact ⟨M1, f1, f2, fun c x y => (f3 c x y).trans (c2.1 c x y), fun k hk => (f4 k hk).trans (c2.2.1 k hk), fun c k hk => (f5 c k hk).trans (by rw [c2.2.2])⟩
  · rw [if_pos (by rw [wkI_0]; simpa using h1), if_neg h1]
    exact k13 M g rfl rfl hS

