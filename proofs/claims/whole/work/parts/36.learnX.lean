/-! The class's Guesser: learning. Head written by wip/whole/mk36.py. -/
def ASame (o : Nat) (M M' : Mem) : Prop := (∀ k, M'.1 o k = M.1 o k) ∧ (∀ k, ¬ (10 ≤ k ∧ k ≤ 12) → M'.1 (o + 1) k = M.1 (o + 1) k) ∧ M'.1 (o + 2) = M.1 (o + 2) ∧ M'.1 (o + 7) = M.1 (o + 7) ∧ (∀ k, ¬ k = 1 → M'.1 (o + 14) k = M.1 (o + 14) k) ∧ M'.1 (o + 16) = M.1 (o + 16) ∧ M'.2 o 4 = M.2 o 4
def Ch (o : Nat) (M M' : Mem) : Prop := FrX o M M' ∧ ASame o M M'
theorem Ch.rf {o : Nat} {M : Mem} : Ch o M M := ⟨FrX.rf, fun _ => rfl, fun _ _ => rfl, rfl, rfl, fun _ _ => rfl, rfl, rfl⟩
theorem Ch.tr {o : Nat} {A B C : Mem} (h : Ch o A B) (k : Ch o B C) : Ch o A C :=
  ⟨h.1.tr k.1, fun j => (k.2.1 j).trans (h.2.1 j), fun j hj => (k.2.2.1 j hj).trans (h.2.2.1 j hj), k.2.2.2.1.trans h.2.2.2.1, k.2.2.2.2.1.trans h.2.2.2.2.1, fun j hj => (k.2.2.2.2.2.1 j hj).trans (h.2.2.2.2.2.1 j hj), k.2.2.2.2.2.2.1.trans h.2.2.2.2.2.2.1, k.2.2.2.2.2.2.2.trans h.2.2.2.2.2.2.2⟩
theorem Ch.w {o c k : Nat} {v : Int32} {M : Mem} (hc : (3 ≤ c ∧ c ≤ 6) ∨ (9 ≤ c ∧ c ≤ 13) ∨ c = 15) : Ch o M (pI M (o + c) k v) :=
  ⟨FrX.pI (by omega) (by omega), fun j => by rw [(pI_o o (by omega)).1], fun j _ => by rw [(pI_o (o + 1) (by omega)).1], by rw [(pI_o (o + 2) (by omega)).1], by rw [(pI_o (o + 7) (by omega)).1], fun j _ => by rw [(pI_o (o + 14) (by omega)).1], by rw [(pI_o (o + 16) (by omega)).1], rfl⟩
theorem Ch.w1 {o k : Nat} {v : Int32} {M : Mem} (hk : 10 ≤ k ∧ k ≤ 12) : Ch o M (pI M (o + 1) k v) :=
  ⟨FrX.pI (by omega) (by omega), fun j => by rw [(pI_o o (by omega)).1], fun j hj => by rw [pI_1, if_pos rfl, if_neg (by omega)], by rw [(pI_o (o + 2) (by omega)).1], by rw [(pI_o (o + 7) (by omega)).1], fun j _ => by rw [(pI_o (o + 14) (by omega)).1], by rw [(pI_o (o + 16) (by omega)).1], rfl⟩
theorem Ch.w14 {o : Nat} {v : Int32} {M : Mem} : Ch o M (pI M (o + 14) 1 v) :=
  ⟨FrX.pI (by omega) (by omega), fun j => by rw [(pI_o o (by omega)).1], fun j _ => by rw [(pI_o (o + 1) (by omega)).1], by rw [(pI_o (o + 2) (by omega)).1], by rw [(pI_o (o + 7) (by omega)).1], fun j hj => by rw [pI_1, if_pos rfl, if_neg hj], by rw [(pI_o (o + 16) (by omega)).1], rfl⟩
def SX (cf : Cfg) (g0 gc : GS) (P a o : Nat) (M : Mem) : Prop := AX cf g0 (P % 2 ^ 40) a o M ∧ KT cf (o + 1) M ∧ M.1 o 3 = nI (cf 5) ∧ vX o M = gc ∧ M.2 o 4 = lN P
theorem SX.ch {cf : Cfg} {g0 gc gc' : GS} {P a o : Nat} {M M' : Mem} (h : SX cf g0 gc P a o M) (c : Ch o M M') (e : vX o M' = gc') : SX cf g0 gc' P a o M' := by
  obtain ⟨⟨a1, a2, a3, a4, a5, a6, a7, a8, a9, a10, a11, a12, a13⟩, hK, h3, -, hp⟩ := h
  obtain ⟨-, c1, c2, c3, c4, c5, c6, c7⟩ := c
  refine ⟨⟨?_, ?_, ?_, a4.mv (c2 14 (by omega)) (fun t => by rw [show o + 1 + 6 = o + 7 by omega, c4]), ?_, ?_, ?_, ?_, ?_, ?_, ?_, ?_, ?_⟩, hK.mv (fun k hk => c2 k (by omega)) (fun t => by rw [show o + 1 + 1 = o + 2 by omega, c3]), ?_, e, ?_⟩
  · rw [c1]; exact a1
  · rw [c1]; exact a2
  · rw [c1]; exact a3
  · rw [c2 15 (by omega)]; exact a5
  · rw [c2 16 (by omega)]; exact a6
  · rw [c2 17 (by omega)]; exact a7
  · rw [c2 18 (by omega)]; exact a8
  · rw [c6]; exact a9
  · rw [c6]; exact a10
  · rw [c6]; exact a11
  · rw [c5 3 (by omega)]; exact a12
  · rw [c5 4 (by omega)]; exact a13
  · rw [c1]; exact h3
  · rw [c7]; exact hp
theorem vx_0 (o : Nat) (M : Mem) (k : Nat) (v : Int32) : vX o (pI M (o + 3) k v) = gu (vX o M) 0 k v := by
  funext i j
  unfold vX gu
  split <;> first | (simp [pI_1]; done) | (simp_all [pI_1]; done)
theorem vx_1 (o : Nat) (M : Mem) (k : Nat) (v : Int32) : vX o (pI M (o + 4) k v) = gu (vX o M) 1 k v := by
  funext i j
  unfold vX gu
  split <;> first | (simp [pI_1]; done) | (simp_all [pI_1]; done)
theorem vx_2 (o : Nat) (M : Mem) (k : Nat) (v : Int32) : vX o (pI M (o + 5) k v) = gu (vX o M) 2 k v := by
  funext i j
  unfold vX gu
  split <;> first | (simp [pI_1]; done) | (simp_all [pI_1]; done)
theorem vx_3 (o : Nat) (M : Mem) (k : Nat) (v : Int32) : vX o (pI M (o + 6) k v) = gu (vX o M) 3 k v := by
  funext i j
  unfold vX gu
  split <;> first | (simp [pI_1]; done) | (simp_all [pI_1]; done)
theorem vx_4 (o : Nat) (M : Mem) (k : Nat) (v : Int32) : vX o (pI M (o + 9) k v) = gu (vX o M) 4 k v := by
  funext i j
  unfold vX gu
  split <;> first | (simp [pI_1]; done) | (simp_all [pI_1]; done)
theorem vx_5 (o : Nat) (M : Mem) (k : Nat) (v : Int32) : vX o (pI M (o + 10) k v) = gu (vX o M) 5 k v := by
  funext i j
  unfold vX gu
  split <;> first | (simp [pI_1]; done) | (simp_all [pI_1]; done)
theorem vx_6 (o : Nat) (M : Mem) (k : Nat) (v : Int32) : vX o (pI M (o + 11) k v) = gu (vX o M) 6 k v := by
  funext i j
  unfold vX gu
  split <;> first | (simp [pI_1]; done) | (simp_all [pI_1]; done)
theorem vx_7 (o : Nat) (M : Mem) (k : Nat) (v : Int32) : vX o (pI M (o + 12) k v) = gu (vX o M) 7 k v := by
  funext i j
  unfold vX gu
  split <;> first | (simp [pI_1]; done) | (simp_all [pI_1]; done)
theorem vx_8 (o : Nat) (M : Mem) (k : Nat) (v : Int32) : vX o (pI M (o + 13) k v) = gu (vX o M) 8 k v := by
  funext i j
  unfold vX gu
  split <;> first | (simp [pI_1]; done) | (simp_all [pI_1]; done)
theorem vx_9 (o : Nat) (M : Mem) (k : Nat) (v : Int32) : vX o (pI M (o + 15) k v) = gu (vX o M) 9 k v := by
  funext i j
  unfold vX gu
  split <;> first | (simp [pI_1]; done) | (simp_all [pI_1]; done)
theorem vx_10 (o : Nat) (M : Mem) (v : Int32) : vX o (pI M (o + 1) 10 v) = gs (vX o M) 10 v := by
  funext i j
  unfold vX gs
  split <;> first | (simp [pI_1]; done) | (simp_all [pI_1]; done)
theorem vx_11 (o : Nat) (M : Mem) (v : Int32) : vX o (pI M (o + 1) 11 v) = gs (vX o M) 11 v := by
  funext i j
  unfold vX gs
  split <;> first | (simp [pI_1]; done) | (simp_all [pI_1]; done)
theorem vx_12 (o : Nat) (M : Mem) (v : Int32) : vX o (pI M (o + 1) 12 v) = gs (vX o M) 12 v := by
  funext i j
  unfold vX gs
  split <;> first | (simp [pI_1]; done) | (simp_all [pI_1]; done)
theorem vx_13 (o : Nat) (M : Mem) (v : Int32) : vX o (pI M (o + 14) 1 v) = gs (vX o M) 13 v := by
  funext i j
  unfold vX gs
  split <;> first | (simp [pI_1]; done) | (simp_all [pI_1]; done)
theorem bdX (x lo hi : Int32) (M : Mem) : fX9_bounded x lo hi M = some (bd x lo hi, M) := rfl
theorem giveX {o i : Nat} {ow ag : Int32} {M : Mem} (hi : i < 8) : ∃ M', fX2_give (o + 8) (nI i) ow ag M = some M' ∧ Ch o M M' ∧ vX o M' = giS (vX o M) i ow ag := by
  unfold fX2_give
  rw [ib_n hi (by omega), tn_n (by omega)]
  simp only [ck_t]
  refine ⟨_, rfl, ?_, ?_⟩
  · exact Ch.tr (Ch.tr (Ch.tr (Ch.tr (Ch.w (c := 9) (by omega)) (Ch.w (c := 10) (by omega))) (Ch.w (c := 11) (by omega))) (Ch.w (c := 12) (by omega))) (Ch.w (c := 13) (by omega))
  · show vX o (pI (pI (pI (pI (pI M (o + 9) i ow) (o + 10) i (-1)) (o + 11) i 0) (o + 12) i 0) (o + 13) i ag) = _
    rw [vx_8, vx_7, vx_6, vx_5, vx_4]; rfl
theorem goOn1X {o i : Nat} {M : Mem} (hi : i < 8) : ∃ M', fX2_goOn_49 (o + 8) (nI i) M = some M' ∧ Ch o M M' ∧ vX o M' = goS1 (vX o M) i := by
  unfold fX2_goOn_49 goS1
  rw [ib_n hi (by omega), tn_n (by omega), ck_t, show M.1 (o + 8 + 3) i = vX o M 6 i from rfl]
  by_cases h : vX o M 6 i = 60
  · rw [if_pos h, if_pos h]
    obtain ⟨M', e, c, v⟩ := giveX (o := o) (ow := -1) (ag := 0) (M := M) hi
    rw [e]
    exact ⟨M', rfl, c, v⟩
  · rw [if_neg h, if_neg h]
    exact ⟨M, rfl, Ch.rf, rfl⟩
theorem goOnX {o i : Nat} {M : Mem} (hi : i < 8) : ∃ M', fX2_goOn (o + 8) (nI i) M = some M' ∧ Ch o M M' ∧ vX o M' = goS (vX o M) i := by
  unfold fX2_goOn
  rw [ib_n hi (by omega), tn_n (by omega)]
  simp only [ck_t]
  rw [show M.1 (o + 8 + 3) i = vX o M 6 i from rfl]
  have e5 : (pI M (o + 8 + 3) i (vX o M 6 i + 1)).1 (o + 8 + 2) i = vX o M 5 i := by rw [(pI_o (o + 8 + 2) (by omega)).1]; rfl
  have e6 : (pI M (o + 8 + 3) i (vX o M 6 i + 1)).1 (o + 8 + 3) i = vX o M 6 i + 1 := by rw [pI_1]; simp
  rw [e5, e6]
  have c1 : Ch o M (pI M (o + 8 + 3) i (vX o M 6 i + 1)) := Ch.w (c := 11) (by omega)
  have v1 : vX o (pI M (o + 8 + 3) i (vX o M 6 i + 1)) = gu (vX o M) 6 i (vX o M 6 i + 1) := vx_6 o M i _
  unfold goS
  by_cases h : vX o M 5 i = -1
  · rw [if_pos h, if_pos h]
    obtain ⟨M', e, c, v⟩ := goOn1X (o := o) (M := pI M (o + 8 + 3) i (vX o M 6 i + 1)) hi
    exact ⟨M', e, c1.tr c, by rw [v, v1]⟩
  · rw [if_neg h, if_neg h]
    by_cases h2 : vX o M 6 i + 1 ≤ vX o M 5 i
    · rw [if_pos h2, if_pos h2]
      obtain ⟨M', e, c, v⟩ := goOn1X (o := o) (M := pI M (o + 8 + 3) i (vX o M 6 i + 1)) hi
      exact ⟨M', e, c1.tr c, by rw [v, v1]⟩
    · rw [if_neg h2, if_neg h2]
      obtain ⟨M', e, c, v⟩ := goOn1X (o := o) (M := pI (pI (pI M (o + 8 + 3) i (vX o M 6 i + 1)) (o + 8 + 2) i (-1)) (o + 8 + 4) i 0) hi
      refine ⟨M', e, (c1.tr ((Ch.w (c := 10) (by omega)).tr (Ch.w (c := 12) (by omega)))).tr c, ?_⟩
      rw [v, show o + 8 + 4 = o + 12 by omega, show o + 8 + 2 = o + 10 by omega, vx_7, vx_5, v1]
theorem leaveX {o i : Nat} {M : Mem} (hi : i < 8) : ∃ M', fX2_leave (o + 8) (nI i) M = some M' ∧ Ch o M M' ∧ vX o M' = leS (vX o M) i := by
  unfold fX2_leave fX2_leave_55
  rw [ib_n hi (by omega), tn_n (by omega)]
  simp only [ck_t]
  rw [show M.1 (o + 8 + 3) i = vX o M 6 i from rfl, show M.1 (o + 8 + 2) i = vX o M 5 i from rfl, show M.1 (o + 8 + 4) i = vX o M 7 i from rfl]
  unfold leS
  by_cases h : vX o M 6 i = vX o M 5 i
  · rw [if_pos h, if_pos h]
    refine ⟨_, rfl, (Ch.w (c := 12) (by omega)).tr (Ch.w (c := 11) (by omega)), ?_⟩
    rw [show o + 8 + 4 = o + 12 by omega, show o + 8 + 3 = o + 11 by omega, vx_6, vx_7]
  · rw [if_neg h, if_neg h]
    refine ⟨_, rfl, ((Ch.w (c := 10) (by omega)).tr (Ch.w (c := 12) (by omega))).tr (Ch.w (c := 11) (by omega)), ?_⟩
    rw [show o + 8 + 4 = o + 12 by omega, show o + 8 + 3 = o + 11 by omega, show o + 8 + 2 = o + 10 by omega, vx_6, vx_7, vx_5]
theorem lpX {o a : Nat} {t : Int32} {b : Bool} {M : Mem} (ha : a < 64) : ∃ M', fX2_learn (o + 8) (nI a) t (wkI b) M = some M' ∧ Ch o M M' ∧ vX o M' = lpS (vX o M) a t b := by
  unfold fX2_learn
  have hi : a % 8 < 8 := by omega
  rw [show irm (nI a) 8 = nI (a % 8) from pk_rem (a := a) (d := 8) (by omega) (by omega) (by omega), ib_n hi (by omega), tn_n (by omega)]
  simp only [ck_t]
  rw [show M.1 (o + 8 + 1) (a % 8) = vX o M 4 (a % 8) from rfl, show M.1 (o + 8 + 5) (a % 8) = vX o M 8 (a % 8) from rfl]
  unfold lpS
  by_cases h : vX o M 4 (a % 8) = nI a
  · rw [if_pos h, if_pos h]
    by_cases ht : t = 1
    · rw [if_pos ht, if_pos ht]
      obtain ⟨M', e, c, v⟩ := goOnX (o := o) (M := M) hi
      rw [e]; exact ⟨M', rfl, c, v⟩
    · rw [if_neg ht, if_neg ht]
      obtain ⟨M', e, c, v⟩ := leaveX (o := o) (M := M) hi
      rw [e]; exact ⟨M', rfl, c, v⟩
  · rw [if_neg h, if_neg h]
    cases b with
    | false => rw [if_pos (show wkI false = 0 from rfl), if_neg (by decide)]; exact ⟨M, rfl, Ch.rf, rfl⟩
    | true =>
      rw [if_neg (by decide), if_pos rfl]
      by_cases h8 : vX o M 8 (a % 8) ≤ 0
      · rw [if_pos h8, if_pos h8]
        obtain ⟨M', e, c, v⟩ := giveX (o := o) (ow := nI a) (ag := 3) (M := M) hi
        rw [e]; exact ⟨M', rfl, c, v⟩
      · rw [if_neg h8, if_neg h8]
        refine ⟨_, rfl, Ch.w (c := 13) (by omega), vx_8 o M _ _⟩
-- CORRECTOR
theorem cuX {o k c : Nat} {t : Int32} {M : Mem} (f : Nat) (hk : k < 3) (hc : c < 48) (hp : M.1 (o + 16) k = nI c) : ∃ M', fX0_learn_67 (f + 1) (o + 14) t (nI k) M = fX0_learn_67 f (o + 14) t (nI (k + 1)) M' ∧ Ch o M M' ∧ vX o M' = cuS (vX o M) c (if t = 1 then 1 else -1) := by
  rw [fX0_learn_67, if_neg (by rw [show (3 : Int32) = nI 3 from rfl]; exact nI_ge hk (by omega)), ib_n hk (by omega), tn_n (by omega)]
  simp only [ck_t]
  rw [show M.1 (o + 14 + 2) k = nI c from hp, ib_n hc (by omega), tn_n (by omega), ck_t, show M.1 (o + 14 + 1) c = vX o M 9 c from rfl]
  unfold fX0_learn_103
  rw [bdX, bI_s, bdX, bI_s, ib_n hc (by omega), tn_n (by omega), nI_1]
  simp only [ck_t]
  by_cases ht : t = 1
  · rw [if_pos ht, if_pos ht]
    exact ⟨_, rfl, Ch.w (c := 15) (by omega), vx_9 o M _ _⟩
  · rw [if_neg ht, if_neg ht]
    exact ⟨_, rfl, Ch.w (c := 15) (by omega), vx_9 o M _ _⟩
theorem cu3X {cf : Cfg} {g0 gc : GS} {P a o : Nat} {t : Int32} {M : Mem} (h : SX cf g0 gc P a o M) : ∃ M', fX0_learn_65 (o + 14) t M = some M' ∧ Ch o M M' ∧ vX o M' = cuS (cuS (cuS gc (c0S cf g0 (P % 2 ^ 40) a) (if t = 1 then 1 else -1)) (c1S (P % 2 ^ 40) a) (if t = 1 then 1 else -1)) (c2S (P % 2 ^ 40) a) (if t = 1 then 1 else -1) := by
  have hc0 := c0_lt cf g0 (P % 2 ^ 40) a
  have hc1 := c1_lt (P % 2 ^ 40) a
  have hc2 := c2_lt (P % 2 ^ 40) a
  unfold fX0_learn_65
  rw [show LF = 99996 + 1 + 1 + 1 + 1 from rfl, show (0 : Int32) = nI 0 from rfl]
  obtain ⟨M1, e1, k1, v1⟩ := cuX (o := o) (t := t) (M := M) (99996 + 1 + 1 + 1) (show 0 < 3 by omega) (show c0S cf g0 (P % 2 ^ 40) a < 48 by omega) h.1.2.2.2.2.2.2.2.2.1
  have h1 := h.ch k1 v1
  obtain ⟨M2, e2, k2, v2⟩ := cuX (o := o) (t := t) (M := M1) (99996 + 1 + 1) (show 1 < 3 by omega) (show c1S (P % 2 ^ 40) a < 48 by omega) h1.1.2.2.2.2.2.2.2.2.2.1
  have h2 := h1.ch k2 v2
  obtain ⟨M3, e3, k3, v3⟩ := cuX (o := o) (t := t) (M := M2) (99996 + 1) (show 2 < 3 by omega) (show c2S (P % 2 ^ 40) a < 48 by omega) h2.1.2.2.2.2.2.2.2.2.2.2.1
  rw [e1, e2, e3, fX0_learn_67, if_pos (by decide)]
  exact ⟨M3, rfl, k1.tr (k2.tr k3), by rw [v3, v2, v1, h.2.2.2.1]⟩
theorem crX {cf : Cfg} {g0 gc : GS} {P a o : Nat} {t : Int32} {M : Mem} (h : SX cf g0 gc P a o M) : ∃ M', fX0_learn (o + 14) t M = some M' ∧ Ch o M M' ∧ vX o M' = crS gc (c0S cf g0 (P % 2 ^ 40) a) (c1S (P % 2 ^ 40) a) (c2S (P % 2 ^ 40) a) (fsS cf g0 (P % 2 ^ 40) a) (toS cf g0 (P % 2 ^ 40) a) (sdS cf g0 (P % 2 ^ 40) a) t := by
  have r3 : M.1 (o + 14) 3 = fsS cf g0 (P % 2 ^ 40) a := h.1.2.2.2.2.2.2.2.2.2.2.2.1
  have r4 : M.1 (o + 14) 4 = toS cf g0 (P % 2 ^ 40) a := h.1.2.2.2.2.2.2.2.2.2.2.2.2
  have r1 : M.1 (o + 14) 1 = gc 13 0 := by rw [← h.2.2.2.1]; rfl
  have esd : (if toS cf g0 (P % 2 ^ 40) a ≤ 0 then (0 : Int32) else 1) = sdS cf g0 (P % 2 ^ 40) a := rfl
  -- behind LIMIT
  have k49 : ∀ (MM : Mem) (gg : GS) (b : Bool), SX cf g0 gg P a o MM → (b = true ↔ sdS cf g0 (P % 2 ^ 40) a = t) → ∃ M', fX0_learn_49 (o + 14) t (wkI b) MM = some M' ∧ Ch o MM M' ∧ vX o M' = (if sdS cf g0 (P % 2 ^ 40) a = t ∧ 12 ≤ ab (toS cf g0 (P % 2 ^ 40) a) then gg else cuS (cuS (cuS gg (c0S cf g0 (P % 2 ^ 40) a) (if t = 1 then 1 else -1)) (c1S (P % 2 ^ 40) a) (if t = 1 then 1 else -1)) (c2S (P % 2 ^ 40) a) (if t = 1 then 1 else -1)) := by
    intro MM gg b hS hb
    unfold fX0_learn_49
    rw [hS.1.2.2.2.2.2.2.2.2.2.2.2.2]
    cases b with
    | false =>
      rw [if_pos (show wkI false = 0 from rfl), if_neg (fun z => by simp at hb; exact hb z.1)]
      exact cu3X hS
    | true =>
      rw [if_neg (by decide)]
      have e := hb.mp rfl
      show ∃ M', (if 12 ≤ ab (toS cf g0 (P % 2 ^ 40) a) then some MM else fX0_learn_65 (o + 14) t MM) = some M' ∧ _
      by_cases h12 : 12 ≤ ab (toS cf g0 (P % 2 ^ 40) a)
      · rw [if_pos h12, if_pos ⟨e, h12⟩]
        exact ⟨MM, rfl, Ch.rf, hS.2.2.2.1⟩
      · rw [if_neg h12, if_neg (fun z => h12 z.2)]
        exact cu3X hS
  have k13 : ∀ b : Bool, (b = true ↔ sdS cf g0 (P % 2 ^ 40) a = t) → ∃ M', fX0_learn_13 (o + 14) t (wkI b) M = some M' ∧ Ch o M M' ∧ vX o M' = crS gc (c0S cf g0 (P % 2 ^ 40) a) (c1S (P % 2 ^ 40) a) (c2S (P % 2 ^ 40) a) (fsS cf g0 (P % 2 ^ 40) a) (toS cf g0 (P % 2 ^ 40) a) (sdS cf g0 (P % 2 ^ 40) a) t := by
    intro b hb
    unfold fX0_learn_13
    rw [sdX, bI_s, r4, r3, esd, r1]
    unfold crS
    by_cases hsf : sdS cf g0 (P % 2 ^ 40) a = fsS cf g0 (P % 2 ^ 40) a
    · rw [if_pos hsf]
      simp only [if_pos hsf]
      exact k49 M gc b h hb
    · rw [if_neg hsf]
      simp only [if_neg hsf]
      have lim : ∀ d : Int32, d = (if sdS cf g0 (P % 2 ^ 40) a = t then -1 else 1) → ∃ M', fX0_learn_39 (o + 14) t (wkI b) (o + 14) (gc 13 0) d M = some M' ∧ Ch o M M' ∧ vX o M' = (if sdS cf g0 (P % 2 ^ 40) a = t ∧ 12 ≤ ab (toS cf g0 (P % 2 ^ 40) a) then gs gc 13 (bd (gc 13 0 + (if sdS cf g0 (P % 2 ^ 40) a = t then -1 else 1)) 1 15) else cuS (cuS (cuS (gs gc 13 (bd (gc 13 0 + (if sdS cf g0 (P % 2 ^ 40) a = t then -1 else 1)) 1 15)) (c0S cf g0 (P % 2 ^ 40) a) (if t = 1 then 1 else -1)) (c1S (P % 2 ^ 40) a) (if t = 1 then 1 else -1)) (c2S (P % 2 ^ 40) a) (if t = 1 then 1 else -1)) := by
        intro d hd
        unfold fX0_learn_39
        rw [bdX, bI_s]
        have cw : Ch o M (pI M (o + 14) 1 (bd (gc 13 0 + d) 1 15)) := Ch.w14
        have vw : vX o (pI M (o + 14) 1 (bd (gc 13 0 + d) 1 15)) = gs gc 13 (bd (gc 13 0 + d) 1 15) := by rw [vx_13, h.2.2.2.1]
        obtain ⟨M', e, c, v⟩ := k49 _ _ b (h.ch cw vw) hb
        exact ⟨M', e, cw.tr c, by rw [v, hd]⟩
      cases b with
      | false =>
        rw [if_pos (show wkI false = 0 from rfl)]
        exact lim 1 (by rw [if_neg (fun z => by simp at hb; exact hb z)])
      | true =>
        rw [if_neg (by decide)]
        exact lim (-1) (by rw [if_pos (hb.mp rfl)])
  unfold fX0_learn
  rw [sdX, bI_s, r4, esd]
  by_cases h1 : sdS cf g0 (P % 2 ^ 40) a = t
  · rw [if_pos h1]; exact k13 true (by simp [h1])
  · rw [if_neg h1]; exact k13 false (by simp [h1])

