/-! The class's told program, its guesser set as told, and the trail recorded. -/
def cfW (W : Wd) : Cfg := fun k => if k = 3 then nT W else if k = 4 then 0 else if k < 6 then tn (W k) else if 11 ≤ k ∧ k ≤ 15 then tn (W (k - 1)) else 0
def HdOk (W : Wd) : Prop := (∀ k, k < 6 → W k = nI (tn (W k))) ∧ (∀ t, 1 ≤ t → t ≤ nT W → W (9 + t) = nI (tn (W (9 + t)))) ∧ CfgOk (cfW W)
def Tw (W : Wd) (q : Nat) (M : Mem) : Prop := (M.1 q 5 = W 9 ∧ M.1 q 6 = W 6 ∧ M.1 q 8 = W 8) ∧ (∀ k, k < 6 → M.1 (q + 1) k = W k) ∧ ((∀ t, 1 ≤ t → t ≤ nT W → M.1 (q + 2) t = W (9 + t)) ∧ M.1 (q + 2) 0 = 0) ∧ Tk W q M ∧ (∀ i, i < nA W → M.1 (q + 5) i = W (175 + i))
theorem Tw.fr {W : Wd} {q : Nat} {M M' : Mem} (h : Tw W q M) (f : ∀ c, q ≤ c → c ≤ q + 5 → M'.1 c = M.1 c) : Tw W q M' := by
  have f0 := f q (by omega) (by omega)
  have f1 := f (q + 1) (by omega) (by omega)
  have f2 := f (q + 2) (by omega) (by omega)
  have f5 := f (q + 5) (by omega) (by omega)
  refine ⟨?_, ?_, ?_, h.2.2.2.1.fr f0 (f _ (by omega) (by omega)) (f _ (by omega) (by omega)), ?_⟩
  · rw [f0]; exact h.1
  · rw [f1]; exact h.2.1
  · rw [f2]; exact h.2.2.1
  · rw [f5]; exact h.2.2.2.2
section Told
variable {W : Wd}
theorem cpok6 : cpok (0 : Int32) (0 : Int32) (nI 6) 6 6 = true := rfl
theorem setAsX {o q : Nat} {M : Mem} (ho : kd o = (1, 0)) (hq : q + 5 < o) (hW : PgOk W) (h : Tw W q M) (hz : GZ (vX o M)) : ∃ M', fX1_setAs o q M = some M' ∧ (HdOk W → GX (cfW W) g0S 0 o M') ∧ vX o M' = g0S ∧ M'.1 o 5 = 0 ∧ FrX o M M' := by
  unfold fX1_setAs fX6_setAs
  rw [show ib (0 : Int32) 6 = true from rfl, show ib (1 : Int32) 6 = true from rfl, show ib (2 : Int32) 6 = true from rfl, show ib (5 : Int32) 6 = true from rfl, cpok6, ck_t, ck_t, ck_t, ck_t, bV_s, ck_t]
  simp only [show tn (0 : Int32) = 0 from rfl, show tn (1 : Int32) = 1 from rfl, show tn (2 : Int32) = 2 from rfl, show tn (5 : Int32) = 5 from rfl, show tn (nI 6) = 6 from rfl]
  have hne : ∀ c, c ≤ q + 5 → ∀ (A : Mem) (k : Nat) (v : Int32), (pI A (o + 1) k v).1 c = A.1 c := fun c hc A k v => (pI_o c (by omega)).1
  simp only [hne (q + 1) (by omega), hne q (by omega)]
  generalize hM1 : pC (pI (pI (pI (pI (pI M (o + 1) 0 (M.1 (q + 1) 0)) (o + 1) 1 (M.1 (q + 1) 1)) (o + 1) 2 (M.1 (q + 1) 2)) (o + 1) 3 (M.1 q 6)) (o + 1) 4 (-1)) (q + 2) (o + 1 + 1) 0 0 6 = M1
  have a1 : ∀ c, ¬ c = o + 1 → ¬ c = o + 2 → M1.1 c = M.1 c := by
    intro c c1 c2
    funext j
    rw [← hM1, pC_1, if_neg (by omega), (pI_o c c1).1, (pI_o c c1).1, (pI_o c c1).1, (pI_o c c1).1, (pI_o c c1).1]
  have a2 : M1.2 = M.2 := by rw [← hM1]; rfl
  have a3 : ∀ k, 5 ≤ k → M1.1 (o + 1) k = M.1 (o + 1) k := by
    intro k hk
    rw [← hM1, pC_1, if_neg (by omega), pI_1, if_pos rfl, if_neg (by omega), pI_1, if_pos rfl, if_neg (by omega), pI_1, if_pos rfl, if_neg (by omega), pI_1, if_pos rfl, if_neg (by omega), pI_1, if_pos rfl, if_neg (by omega)]
  have a4 : ∀ k, k < 6 → M1.1 (o + 2) k = M.1 (q + 2) k := by
    intro k hk
    rw [← hM1, pC_1, if_pos (by omega), if_pos (by omega), show 0 + (k - 0) = k by omega, (pI_o _ (by omega)).1, (pI_o _ (by omega)).1, (pI_o _ (by omega)).1, (pI_o _ (by omega)).1, (pI_o _ (by omega)).1]
  have b0 : M1.1 (o + 1) 0 = M.1 (q + 1) 0 := by rw [← hM1]; simp [pC_1, pI_1]
  have b1 : M1.1 (o + 1) 1 = M.1 (q + 1) 1 := by rw [← hM1]; simp [pC_1, pI_1]
  have b2 : M1.1 (o + 1) 2 = M.1 (q + 1) 2 := by rw [← hM1]; simp [pC_1, pI_1]
  have b3 : M1.1 (o + 1) 3 = M.1 q 6 := by rw [← hM1]; simp [pC_1, pI_1]
  have b4 : M1.1 (o + 1) 4 = -1 := by rw [← hM1]; simp [pC_1, pI_1]
  rw [a1 (q + 1) (by omega) (by omega), h.2.1 5 (by omega)]
  have v1 : vX o (pI M1 o 3 (W 5)) = vX o M := by
    funext i
    unfold vX
    split <;> first | rfl | (rw [(pI_o _ (by omega)).1, a1 _ (by omega) (by omega)]) | (funext _; rw [(pI_o _ (by omega)).1, a3 _ (by omega)])
  obtain ⟨M2, e2, v2, p2, m2, f2, t2, s2, o2⟩ := clearX (o := o) (M := pI M1 o 3 (W 5)) ho (by rw [v1]; exact hz)
  rw [e2, bV_s]
  have k1 : ∀ k, (pI M1 o 3 (W 5)).1 (o + 1) k = M1.1 (o + 1) k := fun k => by rw [(pI_o _ (by omega)).1]
  refine ⟨M2, rfl, fun hH => ⟨⟨?_, ?_, ?_, ?_, ?_, ?_⟩, ?_, v2, 0, by decide, p2, rfl⟩, v2, m2, ?_⟩
  · rw [t2 0 (by omega), k1, b0, h.2.1 0 (by omega)]; exact hH.1 0 (by omega)
  · rw [t2 1 (by omega), k1, b1, h.2.1 1 (by omega)]; exact hH.1 1 (by omega)
  · rw [t2 2 (by omega), k1, b2, h.2.1 2 (by omega)]; exact hH.1 2 (by omega)
  · rw [t2 3 (by omega), k1, b3, h.1.2.1]; exact hW.1.1
  · rw [t2 4 (by omega), k1, b4]; rfl
  · intro t ht1 ht2
    have hn := hW.1.2
    have ht3 : t ≤ nT W := ht2
    show M2.1 (o + 2) t = _
    rw [s2, (pI_o _ (by omega)).1, a4 t (by omega), h.2.2.1.1 t ht1 ht3, hH.2.1 t ht1 ht3]
    show _ = nI (if 10 + t = 3 then _ else _)
    rw [if_neg (by omega), if_neg (by omega), if_neg (by omega), if_pos (by omega), show 10 + t - 1 = 9 + t by omega]
  · rw [o2 3 (by omega), pI_1, if_pos rfl, if_pos rfl]; exact hH.1 5 (by omega)
  · intro c hc
    obtain ⟨x, y⟩ := f2 c hc
    refine ⟨x.trans ?_, y.trans ?_⟩
    · rw [(pI_o c (by omega)).1, a1 c (by omega) (by omega)]
    · show M1.2 c = M.2 c
      rw [a2]
end Told
def pl (l : T3) : BL := l.map fun x => (x.1, x.2.1)
theorem pl_len (l : T3) : (pl l).length = l.length := by unfold pl; simp
theorem pl_get {l : T3} {b : Nat} {x : Nat × Int32 × Int32} (h : l[b]? = some x) : (pl l)[b]? = some (x.1, x.2.1) := by unfold pl; rw [List.getElem?_map, h]; rfl
def FcX (cf : Cfg) (l : T3) (m : Nat) (M : Mem) : Prop := ∀ b, b < m → ∀ k, 2 ≤ k → k ≤ 7 → M.1 40 (9 * b + k) = fcS cf (pl l) b k
theorem factX {b k : Nat} (hb : b < 240) (hk : k < 9) (M : Mem) : fX8_fact 39 (nI b) (nI k) M = some (M.1 40 (9 * b + k), M) := by
  unfold fX8_fact
  rw [show (9 : Int32) * nI b = nI (9 * b) from pk_mul 9 b, nI_add, ib_n (show 9 * b + k < 2160 by omega) (by omega), ck_t, tn_n (by omega)]
theorem set40 {b k : Nat} (hb : b < 240) (hk : k < 9) (v : Int32) (M : Mem) : fX8_set 39 (nI b) (nI k) v M = some (pI M 40 (9 * b + k) v) := setT (by omega) rfl M v
theorem noteX {cf : Cfg} {g : GS} {p a b : Nat} {M : Mem} (hb : b < 240) (hA : AX cf g p a 41 M) : ∃ M', fX8_note 39 (nI b) 41 M = some M' ∧ (∀ c, ¬ c = 40 → M'.1 c = M.1 c) ∧ M'.2 = M.2 ∧ (∀ j, ¬ (9 * b + 2 ≤ j ∧ j ≤ 9 * b + 7) → M'.1 40 j = M.1 40 j) ∧ M'.1 40 (9 * b + 2) = anS cf g p a ∧ M'.1 40 (9 * b + 3) = nI (pvS cf g p a) ∧ M'.1 40 (9 * b + 4) = nI (atS cf g p a) ∧ M'.1 40 (9 * b + 5) = wkI (wkS cf g p a) ∧ M'.1 40 (9 * b + 6) = fsS cf g p a ∧ M'.1 40 (9 * b + 7) = whS cf g p a := by
  obtain ⟨-, h7, h8, -, h15, h16, h17, h18, -⟩ := hA
  have hne : ∀ c, ¬ c = 40 → ∀ (A : Mem) (k : Nat) (v : Int32), (pI A 40 k v).1 c = A.1 c := fun c hc A k v => (pI_o c hc).1
  unfold fX8_note fX8_note_54
  have h15' : M.1 42 15 = nI (pvS cf g p a) := h15
  have h16' : M.1 42 16 = nI (atS cf g p a) := h16
  have h17' : M.1 42 17 = wkI (wkS cf g p a) := h17
  have h18' : M.1 42 18 = fsS cf g p a := h18
  simp only [show (2 : Int32) = nI 2 from rfl, show (3 : Int32) = nI 3 from rfl, show (4 : Int32) = nI 4 from rfl, show (5 : Int32) = nI 5 from rfl, show (6 : Int32) = nI 6 from rfl, show (7 : Int32) = nI 7 from rfl, set40 hb (show 2 < 9 by omega), set40 hb (show 3 < 9 by omega), set40 hb (show 4 < 9 by omega), set40 hb (show 5 < 9 by omega), set40 hb (show 6 < 9 by omega), set40 hb (show 7 < 9 by omega), bV_s, hne 42 (by decide), hne 41 (by decide), h15', h16', h17', h18', h7, h8]
  have hw : (if wkI (wkS cf g p a) = 0 then (0 : Int32) else 1) = wkI (wkS cf g p a) := by
    cases wkS cf g p a <;> rfl
  have : ∀ (X : Int32 → Mem), (if wkI (wkS cf g p a) = 0 then some (X 0) else some (X 1)) = some (X (wkI (wkS cf g p a))) := by
    intro X
    cases wkS cf g p a <;> rfl
  refine ⟨_, this (fun z => pI (pI (pI (pI (pI (pI M 40 (9 * b + 2) (anS cf g p a)) 40 (9 * b + 3) (nI (pvS cf g p a))) 40 (9 * b + 4) (nI (atS cf g p a))) 40 (9 * b + 5) z) 40 (9 * b + 6) (fsS cf g p a)) 40 (9 * b + 7) (whS cf g p a)), ?_, rfl, ?_, ?_, ?_, ?_, ?_, ?_, ?_⟩
  · intro c hc
    simp only [hne c hc]
  · intro j hj
    simp only [pI_1, if_true, if_neg (show ¬ j = 9 * b + 7 by omega), if_neg (show ¬ j = 9 * b + 6 by omega), if_neg (show ¬ j = 9 * b + 5 by omega), if_neg (show ¬ j = 9 * b + 4 by omega), if_neg (show ¬ j = 9 * b + 3 by omega), if_neg (show ¬ j = 9 * b + 2 by omega)]
  all_goals simp [pI_1]
def FrO (M M' : Mem) : Prop := ∀ c, ¬ (40 ≤ c ∧ c ≤ 57) → M'.1 c = M.1 c ∧ M'.2 c = M.2 c
theorem FrO.tr {A B C : Mem} (h : FrO A B) (k : FrO B C) : FrO A C := fun c hc => ⟨(k c hc).1.trans (h c hc).1, (k c hc).2.trans (h c hc).2⟩
theorem FrX.o {A B : Mem} (h : FrX 41 A B) : FrO A B := fun c hc => h c (by omega)
theorem recordX {cf : Cfg} (hc : CfgOk cf) {l : T3} (hl : l.length ≤ 240) (hB : BOk (pl l)) {b : Nat} (hb : b < l.length) {M : Mem} (hT : TrX l M) (hG : GX cf (gA cf ((pl l).take b)).1 (gA cf ((pl l).take b)).2 41 M) (h5 : M.1 41 5 = nI b) : ∃ M', fX9_record 0 (nI b) M = some M' ∧ TrX l M' ∧ GX cf (gA cf ((pl l).take (b + 1))).1 (gA cf ((pl l).take (b + 1))).2 41 M' ∧ M'.1 41 5 = nI (b + 1) ∧ FrO M M' ∧ (∀ j, ¬ (9 * b + 2 ≤ j ∧ j ≤ 9 * b + 7) → M'.1 40 j = M.1 40 j) ∧ (∀ k, 2 ≤ k → k ≤ 7 → M'.1 40 (9 * b + k) = fcS cf (pl l) b k) := by
  obtain ⟨x, hx⟩ : ∃ x, l[b]? = some x := ⟨l[b], List.getElem?_eq_getElem hb⟩
  obtain ⟨x0, x1, x8⟩ := hT.2 b x hx
  have hpx := pl_get hx
  obtain ⟨hx64, hx01⟩ := hB b _ hpx
  unfold fX9_record
  simp only [Nat.zero_add]
  rw [show fX8_fact 39 (nI b) 0 M = _ from factX (k := 0) (by omega) (by omega) M, bI_s, show M.1 40 (9 * b + 0) = nI x.1 from x0]
  obtain ⟨M1, e1, g1, a1, f1, m1⟩ := askX hc hx64 hG
  rw [e1, bI_s]
  obtain ⟨M2, e2, n1, n2, n3, k2, k3, k4, k5, k6, k7⟩ := noteX (b := b) (by omega) a1
  rw [e2, bV_s]
  have f40 : M1.1 40 = M.1 40 := (f1 40 (by omega)).1
  rw [show fX8_fact 39 (nI b) 1 M2 = _ from factX (k := 1) (by omega) (by omega) M2, bI_s, n3 _ (by omega), f40, x1]
  have g2 : GX cf (gA cf ((pl l).take b)).1 (gA cf ((pl l).take b)).2 41 M2 := by
    refine g1.mv ⟨fun c hc => n1 c (by omega), fun k _ => by rw [n1 _ (by decide)], fun k _ => by rw [n1 _ (by decide)], by rw [n1 _ (by decide)], by rw [n2]⟩
  have a2 : AX cf (gA cf ((pl l).take b)).1 (gA cf ((pl l).take b)).2 x.1 41 M2 := by
    unfold AX PLX at *
    rw [n1 41 (by decide), n1 (41 + 1) (by decide), n1 (41 + 16) (by decide), n1 (41 + 14) (by decide), n1 (41 + 1 + 6) (by decide)]
    exact a1
  obtain ⟨M3, e3, g3, f3, m3⟩ := learnX hc hx64 hx01 g2 a2
  rw [e3, bV_s]
  have fo : FrO M M3 := (f1.o.tr (fun c hc => ⟨n1 c (by omega), by rw [n2]⟩)).tr f3.o
  have f43 : M3.1 40 = M2.1 40 := (f3 40 (by omega)).1
  have fj : ∀ j, ¬ (9 * b + 2 ≤ j ∧ j ≤ 9 * b + 7) → M3.1 40 j = M.1 40 j := fun j hj => by rw [f43, n3 j hj, f40]
  refine ⟨M3, rfl, ⟨by rw [(fo 39 (by omega)).1]; exact hT.1, fun d y hy => ?_⟩, ?_, ?_, fo, fj, fun k hk2 hk7 => ?_⟩
  · rw [fj _ (by omega), fj _ (by omega), fj _ (by omega)]; exact hT.2 d y hy
  · rw [gA_s cf hpx]; exact g3
  · rw [m3, n1 41 (by decide), m1, h5, nI_1]
  · rw [f43]
    have hd : (pl l).getD b (0, 0) = (x.1, x.2.1) := by rw [List.getD_eq_getElem?_getD, hpx]; rfl
    unfold fcS
    simp only [hd]
    have : k = 2 ∨ k = 3 ∨ k = 4 ∨ k = 5 ∨ k = 6 ∨ k = 7 := by omega
    rcases this with rfl | rfl | rfl | rfl | rfl | rfl
    · exact k2
    · exact k3
    · exact k4
    · exact k5
    · exact k6
    · exact k7
