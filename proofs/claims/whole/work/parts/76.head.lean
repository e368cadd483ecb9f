/-! The readers: the draft on both sides; first line and spans. -/
section Head
variable {M N : Mem} {L : Nat}
def hl (i : Nat) : Nat := if i = 0 then 1 else if i = 1 then 2 else if i = 2 then 1 else 0
def hm (i : Nat) : Nat := if i = 0 then 4 else if i = 1 then 6 else if i = 2 then 9 else if i = 3 then 20 else if i = 4 then 9 else 7
theorem hlm (i : Nat) : hl i ≤ 100 ∧ hm i ≤ 999 := by
  unfold hl hm
  constructor
  · split <;> (try split) <;> (try split) <;> omega
  · split <;> (try split) <;> (try split) <;> (try split) <;> (try split) <;> omega
def PW (W : Wd) (l t n : Nat) : Prop := (W 6 = nI t ∧ t ≤ 5) ∧ (W 7 = nI n ∧ n ≤ 40) ∧ W 8 = 0 ∧ W 9 = nI l ∧ (∀ i, i < 6 → ∃ q, hl i ≤ q ∧ q ≤ hm i ∧ W i = nI q) ∧ (∃ sp : Nat → Nat, (∀ s, 1 ≤ s → s ≤ t → W (9 + s) = nI (sp s) ∧ 1 ≤ sp s ∧ sp s ≤ 40) ∧ ∀ s, 1 ≤ s → s < t → sp s < sp (s + 1)) ∧ (∀ i, i < n → OpOk W i)
def Dt (W : Wd) (t n : Nat) (M : Mem) : Prop := (M.1 3 5 = W 9 ∧ M.1 3 6 = W 6 ∧ M.1 3 7 = W 7 ∧ M.1 3 8 = W 8) ∧ (∀ k, k < 6 → M.1 4 k = W k) ∧ ((∀ s, 1 ≤ s → s ≤ t → M.1 5 s = W (9 + s)) ∧ M.1 5 0 = 0) ∧ (∀ i, i < n → M.1 6 i = W (15 + 4 * i)) ∧ (∀ i j, i < n → j < 3 → M.1 7 (3 * i + j) = W (16 + 4 * i + j)) ∧ (∀ j, 3 * n ≤ j → j < 120 → M.1 7 j = -1)
def LnI (l t n : Nat) (M N : Mem) : Prop := PW (N.1 86) l t n ∧ Dt (N.1 86) t n M
def FrC (M M' : Mem) : Prop := (∀ c, ¬ c = 1 → ¬ (3 ≤ c ∧ c ≤ 8) → M'.1 c = M.1 c) ∧ (∀ k, ¬ (2 ≤ k ∧ k ≤ 7) → M'.1 1 k = M.1 1 k) ∧ M'.2 = M.2 ∧ (M.1 5 0 = 0 → M'.1 5 0 = 0)
def FrD (N N' : Mem) : Prop := (∀ c, ¬ c = 80 → ¬ c = 86 → N'.1 c = N.1 c) ∧ (∀ k, ¬ (8 ≤ k ∧ k ≤ 13) → N'.1 80 k = N.1 80 k) ∧ N'.2 = N.2
theorem FrC.rf : FrC M M := ⟨fun _ _ _ => rfl, fun _ _ => rfl, rfl, fun h => h⟩
theorem FrD.rf : FrD N N := ⟨fun _ _ _ => rfl, fun _ _ => rfl, rfl⟩
theorem FrC.tr {A B C : Mem} (h : FrC A B) (k : FrC B C) : FrC A C := ⟨fun c x y => (k.1 c x y).trans (h.1 c x y), fun j hj => (k.2.1 j hj).trans (h.2.1 j hj), k.2.2.1.trans h.2.2.1, fun z => k.2.2.2 (h.2.2.2 z)⟩
theorem FrD.tr {A B C : Mem} (h : FrD A B) (k : FrD B C) : FrD A C := ⟨fun c x y => (k.1 c x y).trans (h.1 c x y), fun j hj => (k.2.1 j hj).trans (h.2.1 j hj), k.2.2.trans h.2.2⟩
theorem FA2.c {A B : Mem} (h : FA2 A B) : FrC A B := ⟨fun c x _ => h.1 c x, h.2.1, h.2.2, fun z => by rw [h.1 5 (by decide)]; exact z⟩
theorem FB2.d {A B : Mem} (h : FB2 A B) : FrD A B := ⟨fun c x _ => h.1 c x, h.2.1, h.2.2⟩
theorem FrC.p {c k : Nat} {v : Int32} (hc : 3 ≤ c ∧ c ≤ 8) (h5 : ¬ (c = 5 ∧ k = 0)) : FrC M (pI M c k v) := by
  refine ⟨fun b _ y => (pI_o b (by omega)).1, fun j _ => by rw [(pI_o 1 (by omega)).1], rfl, fun z => ?_⟩
  rw [pI_1]
  by_cases e : 5 = c
  · rw [if_pos e, if_neg (by omega)]; exact z
  · rw [if_neg e]; exact z
theorem FrD.p {k : Nat} {v : Int32} : FrD N (pI N 86 k v) := ⟨fun b _ y => (pI_o b y).1, fun j _ => by rw [(pI_o 80 (by decide)).1], rfl⟩
theorem RS.dr {M' N' : Mem} (h : RS L M N) (a : ∀ c, c < 3 → M'.1 c = M.1 c) (b : ∀ c, ¬ c = 86 → N'.1 c = N.1 c) : RS L M' N' := h.mv (a 1 (by omega)) (a 2 (by omega)) (b 80 (by decide)) (b 84 (by decide))
-- the first line
def Hs (i : Nat) (M N : Mem) : Prop := (∀ k, 6 ≤ k → k < 215 → N.1 86 k = 0) ∧ (M.1 3 5 = 0 ∧ M.1 3 6 = 0 ∧ M.1 3 7 = 0 ∧ M.1 3 8 = 0) ∧ (∀ k, k < 6 → M.1 4 k = N.1 86 k) ∧ M.1 5 0 = 0 ∧ (∀ j, j < 120 → M.1 7 j = -1) ∧ (M.1 1 2 = 0 → ∀ k, k < i → ∃ q, hl k ≤ q ∧ q ≤ hm k ∧ N.1 86 k = nI q)
theorem Hs.fr {i : Nat} {M' N' : Mem} (h : Hs i M N) (a : FA2 M M') (b : FB2 N N') (c : M'.1 1 2 = 0 → M.1 1 2 = 0) : Hs i M' N' := by
  obtain ⟨h1, h2, h3, h4, h5, h6⟩ := h
  refine ⟨?_, ?_, ?_, ?_, ?_, fun z => ?_⟩
  · rw [b.1 86 (by decide)]; exact h1
  · rw [a.1 3 (by decide)]; exact h2
  · rw [a.1 4 (by decide), b.1 86 (by decide)]; exact h3
  · rw [a.1 5 (by decide)]; exact h4
  · rw [a.1 7 (by decide)]; exact h5
  · rw [b.1 86 (by decide)]; exact h6 (c z)
theorem hdW {i : Nat} (hi : i < 6) (M : Mem) : fX3_headWord (nI i) M = some (2 + i, M) ∧ strs.getD (2 + i) [] = strs.getD (37 + i) [] ∧ sl (2 + i) ≤ 10 ∧ hdL.getD i 0 = nI (hl i) ∧ hdM.getD i 0 = nI (hm i) := by
  have : i = 0 ∨ i = 1 ∨ i = 2 ∨ i = 3 ∨ i = 4 ∨ i = 5 := by omega
  rcases this with rfl | rfl | rfl | rfl | rfl | rfl <;> exact ⟨rfl, by decide, by decide, by decide, by decide⟩
theorem hd2 {i : Nat} (hi : i < 6) (h : RS L M N) (hH : Hs i M N) : ∃ x M2 N1, (∀ f, fX3_readHead_8 (f + 1) 1 3 (nI i) M = fX3_readHead_8 f 1 3 (nI (i + 1)) M2) ∧ fX10_toldBy 80 (37 + i) (nI (hl i)) (nI (hm i)) N = some (x, N1) ∧ RS L M2 (pI N1 86 i x) ∧ Hs (i + 1) M2 (pI N1 86 i x) ∧ FrC M M2 ∧ FrD N (pI N1 86 i x) := by
  obtain ⟨w1, w2, w3, w4, w5⟩ := hdW hi M
  obtain ⟨M3, N3, a1, a2, a3, a4, a5, a6⟩ := twE w2 w3 h
  obtain ⟨x, M4, N4, b1, b2, b3, b4, b5, b6⟩ := tnE (hlm i).2 (hlm i).1 a3
  have r2 : RS L (pI M4 4 i x) (pI N4 86 i x) := b3.dr (fun c hc => (pI_o c (by omega)).1) (fun c hc => (pI_o c hc).1)
  have hH4 : Hs i M4 N4 := (hH.fr a5 a6 a4).fr b5 b6 (fun z => (b4 z).1)
  refine ⟨x, pI M4 4 i x, N4, fun f => ?_, ?_, r2, ?_, (a5.c.tr b5.c).tr (FrC.p (by omega) (by omega)), (a6.d.tr b6.d).tr FrD.p⟩
  · have e : fX3_readHead_8 (f + 1) 1 3 (nI i) M = if (6 : Int32) ≤ nI i then some M else bS (fX3_headWord (nI i) M) fun r2 M1 => bV (fX3_takeWord 1 r2 M1) fun M3 => ck (ib (nI i) 6) <| ck (ib (nI i) 6) <| bI (fX3_takeNumber 1 (hdL.getD (tn (nI i)) 0) (hdM.getD (tn (nI i)) 0) M3) fun r5 M4 => ck (ib (nI i) 6) <| fX3_readHead_8 f 1 3 (nI i + 1) (pI M4 (3 + 1) (tn (nI i)) r5) := rfl
    rw [e, if_neg (show ¬ (6 : Int32) ≤ nI i from nI_ge (b := 6) (by omega) (by omega)), w1]
    show (bV (fX3_takeWord 1 (2 + i) M) fun M3 => ck (ib (nI i) 6) <| ck (ib (nI i) 6) <| bI (fX3_takeNumber 1 (hdL.getD (tn (nI i)) 0) (hdM.getD (tn (nI i)) 0) M3) fun r5 M4 => ck (ib (nI i) 6) <| fX3_readHead_8 f 1 3 (nI i + 1) (pI M4 (3 + 1) (tn (nI i)) r5)) = _
    rw [a1, bV_s, ib_n hi (by omega), ck_t, ck_t, tn_n (by omega), w4, w5, b1, bI_s, ck_t, nI_1]
  · unfold fX10_toldBy
    rw [a2, bV_s, b2, bI_s]
  · obtain ⟨h1, h2, h3, h4, h5, h6⟩ := hH4
    refine ⟨fun k k1 k2 => ?_, ?_, fun k hk => ?_, ?_, ?_, fun z k hk => ?_⟩
    · rw [pI_1, if_pos rfl, if_neg (by omega)]; exact h1 k k1 k2
    · rw [(pI_o 3 (by decide)).1]; exact h2
    · rw [pI_1, if_pos rfl, pI_1, if_pos rfl]
      by_cases e : k = i
      · rw [if_pos e, if_pos e]
      · rw [if_neg e, if_neg e]; exact h3 k hk
    · rw [(pI_o 5 (by decide)).1]; exact h4
    · rw [(pI_o 7 (by decide)).1]; exact h5
    · rw [(pI_o 1 (by decide)).1] at z
      obtain ⟨z0, q, q1, q2, q3⟩ := b4 z
      by_cases e : k = i
      · subst e
        exact ⟨q, q1, q2, by rw [pI_1, if_pos rfl, if_pos rfl]; exact q3⟩
      · obtain ⟨u, u1, u2, u3⟩ := h6 z k (by omega)
        exact ⟨u, u1, u2, by rw [pI_1, if_pos rfl, if_neg e]; exact u3⟩
theorem headE (h : RS L M N) (hH : Hs 0 M N) : ∃ M' N', fX3_readHead 1 3 M = some M' ∧ fX10_readFirst 80 N = some N' ∧ RS L M' N' ∧ (M'.1 1 2 = 0 → LnI 0 0 0 M' N') ∧ FrC M M' ∧ FrD N N' := by
  obtain ⟨M0, N0, a1, a2, a3, a4, a5, a6⟩ := twE (j := 1) (j' := 36) (by decide) (by decide) h
  obtain ⟨x0, M1, N1, c1, d1, r1, h1, f1, g1⟩ := hd2 (i := 0) (by omega) a3 (hH.fr a5 a6 a4)
  obtain ⟨x1, M2, N2, c2, d2, r2, h2, f2, g2⟩ := hd2 (i := 1) (by omega) r1 h1
  obtain ⟨x2, M3, N3, c3, d3, r3, h3, f3, g3⟩ := hd2 (i := 2) (by omega) r2 h2
  obtain ⟨x3, M4, N4, c4, d4, r4, h4, f4, g4⟩ := hd2 (i := 3) (by omega) r3 h3
  obtain ⟨x4, M5, N5, c5, d5, r5, h5, f5, g5⟩ := hd2 (i := 4) (by omega) r4 h4
  obtain ⟨x5, M6, N6, c6, d6, r6, h6, f6, g6⟩ := hd2 (i := 5) (by omega) r5 h5
  refine ⟨M6, pI N6 86 5 x5, ?_, ?_, r6, fun z => ?_, a5.c.tr (f1.tr (f2.tr (f3.tr (f4.tr (f5.tr f6))))), a6.d.tr (g1.tr (g2.tr (g3.tr (g4.tr (g5.tr g6)))))⟩
  · unfold fX3_readHead
    rw [a1, bV_s, show fX3_readHead_8 LF 1 3 0 M0 = _ from c1 99999, c2 99998, c3 99997, c4 99996, c5 99995, c6 99994]
    rfl
  · unfold fX10_readFirst
    rw [a2, bV_s, show fX10_toldBy 80 37 1 4 N0 = _ from d1, bI_s, show ib (0 : Int32) 215 = true from rfl, ck_t, show tn (0 : Int32) = 0 from rfl, show fX10_toldBy 80 38 2 6 (pI N1 (80 + 6) 0 x0) = _ from d2, bI_s, show ib (1 : Int32) 215 = true from rfl, ck_t, show tn (1 : Int32) = 1 from rfl, show fX10_toldBy 80 39 1 9 (pI N2 (80 + 6) 1 x1) = _ from d3, bI_s, show ib (2 : Int32) 215 = true from rfl, ck_t, show tn (2 : Int32) = 2 from rfl, show fX10_toldBy 80 40 0 20 (pI N3 (80 + 6) 2 x2) = _ from d4, bI_s, show ib (3 : Int32) 215 = true from rfl, ck_t, show tn (3 : Int32) = 3 from rfl, show fX10_toldBy 80 41 0 9 (pI N4 (80 + 6) 3 x3) = _ from d5, bI_s, show ib (4 : Int32) 215 = true from rfl, ck_t, show tn (4 : Int32) = 4 from rfl, show fX10_toldBy 80 42 0 7 (pI N5 (80 + 6) 4 x4) = _ from d6, bI_s, show ib (5 : Int32) 215 = true from rfl, ck_t, show tn (5 : Int32) = 5 from rfl]
  · obtain ⟨q1, q2, q3, q4, q5, q6⟩ := h6
    refine ⟨⟨⟨q1 6 (by omega) (by omega), by omega⟩, ⟨q1 7 (by omega) (by omega), by omega⟩, q1 8 (by omega) (by omega), q1 9 (by omega) (by omega), q6 z, ⟨fun _ => 0, fun s s1 s2 => by omega, fun s s1 s2 => by omega⟩, fun i hi => by omega⟩, ⟨⟨?_, ?_, ?_, ?_⟩, q3, ⟨fun s s1 s2 => by omega, q4⟩, fun i hi => by omega, fun i j hi => by omega, fun j _ hj => q5 j hj⟩⟩
    · rw [q1 9 (by omega) (by omega)]; exact q2.1
    · rw [q1 6 (by omega) (by omega)]; exact q2.2.1
    · rw [q1 7 (by omega) (by omega)]; exact q2.2.2.1
    · rw [q1 8 (by omega) (by omega)]; exact q2.2.2.2
-- a span
theorem LnI.fr {l t n : Nat} {M' N' : Mem} (h : LnI l t n M N) (a : FA2 M M') (b : FB2 N N') : LnI l t n M' N' := by
  unfold LnI Dt at *
  rw [b.1 86 (by decide), a.1 3 (by decide), a.1 4 (by decide), a.1 5 (by decide), a.1 6 (by decide), a.1 7 (by decide)]; exact h
theorem OpOk.cg {W W' : Wd} {i : Nat} (h : OpOk W i) (e : ∀ k, 15 + 4 * i ≤ k → k < 19 + 4 * i → W' k = W k) : OpOk W' i := by
  unfold OpOk KK NN at *
  rw [e (15 + 4 * i) (by omega) (by omega), e (16 + 4 * i + 0) (by omega) (by omega), e (16 + 4 * i + 1) (by omega) (by omega), e (16 + 4 * i + 2) (by omega) (by omega)]; exact h
theorem spanE {l t n : Nat} (h : RS L M N) (h0 : M.1 1 2 = 0) (hI : LnI l t n M N) (hl : l = 1 + t + n) : ∃ M' N', fX3_readSpan 1 3 M = some M' ∧ fX10_readSpan 80 N = some N' ∧ RS L M' N' ∧ (M'.1 1 2 = 0 → ∃ t' n', LnI l t' n' M' N' ∧ l = t' + n') ∧ FrC M M' ∧ FrD N N' := by
  obtain ⟨⟨⟨p6, pt⟩, ⟨p7, pn⟩, p8, p9, ph, ⟨sp, s1, s2⟩, po⟩, ⟨d0, dh, ⟨ds, dz⟩, dk, dn, dm⟩⟩ := hI
  unfold fX3_readSpan fX10_readSpan
  rw [show ib (7 : Int32) 215 = true from rfl, ck_t, show tn (7 : Int32) = 7 from rfl, show N.1 (80 + 6) 7 = nI n from p7, d0.2.2.1, p7, d0.2.1, p6]
  by_cases hn : n = 0
  · subst hn
    rw [if_pos (show nI 0 ≤ (0 : Int32) by decide), if_pos (show nI 0 ≤ (0 : Int32) by decide)]
    unfold fX10_readSpan_15
    rw [show ib (6 : Int32) 215 = true from rfl, ck_t, show tn (6 : Int32) = 6 from rfl, show N.1 (80 + 6) 6 = nI t from p6]
    by_cases ht : t = 5
    · subst ht
      obtain ⟨M', N', a1, a2, a3, a4, a5, a6⟩ := failE (x := 3) h h0 (by decide)
      unfold fX10_readSpan_31
      rw [if_pos (show nI 5 = (5 : Int32) from rfl), if_pos (show nI 5 = (5 : Int32) from rfl), a1, bV_s, a2, bV_s, goodF (by rw [← a3.2.1.1]; exact a4), bI_s, if_pos rfl]
      exact ⟨M', N', rfl, rfl, a3, fun z => absurd z a4, a5.c, a6.d⟩
    · obtain ⟨M1, N1, a1, a2, a3, a4, a5, a6⟩ := advR h h0
      have n86 : N1.1 86 = N.1 86 := a6.1 86 (by decide)
      have e6 : N1.1 (80 + 6) 6 = nI t := by rw [show N1.1 (80 + 6) = N.1 86 from n86]; exact p6
      have m6 : M1.1 3 6 = nI t := by rw [a5.1 3 (by decide), d0.2.1]; exact p6
      unfold fX10_readSpan_31
      rw [if_neg (show ¬ nI t = (5 : Int32) from kE (n := 5) (by omega) (by omega) ht), if_neg (show ¬ nI t = (5 : Int32) from kE (n := 5) (by omega) (by omega) ht), a1, bV_s, goodT (by rw [← h.2.1.1]; exact h0), bI_s, if_neg (show ¬ (1 : Int32) = 0 by decide), a2, bV_s, show ib (6 : Int32) 215 = true from rfl, ck_t, show tn (6 : Int32) = 6 from rfl, e6, m6, ib_n (show t < 6 by omega) (by omega), ck_t, tn_n (by omega)]
      -- the least span
      obtain ⟨a, ha, ea, la, er⟩ : ∃ a, a ≤ 41 ∧ M1.1 (3 + 2) t + 1 = nI a ∧ (1 ≤ a ∧ (1 ≤ t → a = sp t + 1)) ∧ (if nI t = (0 : Int32) then fX10_readSpan_76 80 1 N1 else ck true (ck (ib ((10 : Int32) + nI t - 1) 215) (fX10_readSpan_76 80 (N1.1 (80 + 6) (tn ((10 : Int32) + nI t - 1)) + 1) N1))) = fX10_readSpan_76 80 (nI a) N1 := by
        by_cases t0 : t = 0
        · subst t0
          refine ⟨1, by omega, ?_, ⟨by omega, fun z => by omega⟩, ?_⟩
          · rw [show M1.1 (3 + 2) 0 = M.1 5 0 by rw [a5.1 (3 + 2) (by decide)], dz]; rfl
          · rw [if_pos (show nI 0 = (0 : Int32) from rfl)]; rfl
        · obtain ⟨u1, u2, u3⟩ := s1 t (by omega) (by omega)
          refine ⟨sp t + 1, by omega, ?_, ⟨by omega, fun _ => rfl⟩, ?_⟩
          · rw [show M1.1 (3 + 2) t = M.1 5 t by rw [a5.1 (3 + 2) (by decide)], ds t (by omega) (by omega), u1, nI_1]
          · rw [if_neg (show ¬ nI t = (0 : Int32) from kE (n := 0) (by omega) (by omega) t0), ck_t, show (10 : Int32) + nI t = nI (10 + t) from nI_add 10 t, show nI (10 + t) - 1 = nI (10 + t - 1) from pk_sub (b := 1) (by omega), ib_n (show 10 + t - 1 < 215 by omega) (by omega), ck_t, tn_n (by omega), show N1.1 (80 + 6) = N.1 86 from n86, show 10 + t - 1 = 9 + t by omega, u1, nI_1]
      rw [er, ea]
      obtain ⟨x, M2, N2, b1, b2, b3, b4, b5, b6⟩ := tnE (a := a) (b := 40) (by omega) (by omega) a3
      have m62 : M2.1 3 6 = nI t := by rw [b5.1 3 (by decide)]; exact m6
      have n862 : N2.1 86 = N.1 86 := by rw [b6.1 86 (by decide)]; exact n86
      unfold fX10_readSpan_76
      rw [show fX3_takeNumber 1 (nI a) 40 M1 = _ from b1, bI_s, show fX10_takes 80 (nI a) 40 N1 = _ from b2, show ib (6 : Int32) 215 = true from rfl, ck_t, bI_s, show tn (6 : Int32) = 6 from rfl, e6, show (10 : Int32) + nI t = nI (10 + t) from nI_add 10 t, ib_n (show 10 + t < 215 by omega) (by omega), ck_t, ck_t, ck_t, tn_n (by omega), m62, nI_1, show (pI M2 3 6 (nI (t + 1))).1 3 6 = nI (t + 1) by rw [pI_1, if_pos rfl, if_pos rfl], ib_n (show t + 1 < 6 by omega) (by omega), ck_t, tn_n (by omega), show (pI N2 (80 + 6) (10 + t) x).1 (80 + 6) 6 = nI t by rw [pI_1, if_pos rfl, if_neg (by omega), show N2.1 (80 + 6) = N.1 86 from n862]; exact p6, nI_1]
      refine ⟨_, _, rfl, rfl, b3.dr (fun c hc => by rw [(pI_o c (by omega)).1, (pI_o c (by omega)).1]) (fun c hc => by rw [(pI_o c hc).1, (pI_o c hc).1]), fun z => ⟨t + 1, 0, ⟨?_, ?_⟩, by omega⟩, (a5.w.c.tr b5.c).tr ((FrC.p (by omega) (by omega)).tr (FrC.p (by omega) (by omega))), (a6.w.d.tr b6.d).tr (FrD.p.tr FrD.p)⟩
      · have z' : M2.1 1 2 = 0 := by rw [(pI_o 1 (by decide)).1, (pI_o 1 (by decide)).1] at z; exact z
        obtain ⟨-, q, q1, q2, q3⟩ := b4 z'
        have w : ∀ k, ¬ k = 6 → ¬ k = 10 + t → (pI (pI N2 86 (10 + t) x) 86 6 (nI (t + 1))).1 86 k = N.1 86 k := fun k k1 k2 => by rw [pI_1, if_pos rfl, if_neg k1, pI_1, if_pos rfl, if_neg k2, n862]
        have w6 : (pI (pI N2 86 (10 + t) x) 86 6 (nI (t + 1))).1 86 6 = nI (t + 1) := by rw [pI_1, if_pos rfl, if_pos rfl]
        have wt : (pI (pI N2 86 (10 + t) x) 86 6 (nI (t + 1))).1 86 (10 + t) = nI q := by rw [pI_1, if_pos rfl, if_neg (by omega), pI_1, if_pos rfl, if_pos rfl]; exact q3
        refine ⟨⟨w6, by omega⟩, ⟨by rw [w 7 (by omega) (by omega)]; exact p7, by omega⟩, by rw [w 8 (by omega) (by omega)]; exact p8, by rw [w 9 (by omega) (by omega)]; exact p9, fun i hi => by rw [w i (by omega) (by omega)]; exact ph i hi, ⟨fun s => if s = t + 1 then q else sp s, fun s x1 x2 => ?_, fun s x1 x2 => ?_⟩, fun i hi => by omega⟩
        · show _ = nI (if s = t + 1 then q else sp s) ∧ 1 ≤ (if s = t + 1 then q else sp s) ∧ (if s = t + 1 then q else sp s) ≤ 40
          by_cases e : s = t + 1
          · rw [if_pos e, e, show 9 + (t + 1) = 10 + t by omega]
            exact ⟨wt, by omega, q2⟩
          · rw [if_neg e, w (9 + s) (by omega) (by omega)]
            exact s1 s x1 (by omega)
        · show (if s = t + 1 then q else sp s) < (if s + 1 = t + 1 then q else sp (s + 1))
          rw [if_neg (by omega)]
          by_cases e : s + 1 = t + 1
          · rw [if_pos e]
            have := la.2 (by omega)
            have e' : s = t := by omega
            rw [e']; omega
          · rw [if_neg e]; exact s2 s x1 (by omega)
      · have w : ∀ k, ¬ k = 6 → ¬ k = 10 + t → (pI (pI N2 86 (10 + t) x) 86 6 (nI (t + 1))).1 86 k = N.1 86 k := fun k k1 k2 => by rw [pI_1, if_pos rfl, if_neg k1, pI_1, if_pos rfl, if_neg k2, n862]
        have w6 : (pI (pI N2 86 (10 + t) x) 86 6 (nI (t + 1))).1 86 6 = nI (t + 1) := by rw [pI_1, if_pos rfl, if_pos rfl]
        have wt : (pI (pI N2 86 (10 + t) x) 86 6 (nI (t + 1))).1 86 (10 + t) = x := by rw [pI_1, if_pos rfl, if_neg (by omega), pI_1, if_pos rfl, if_pos rfl]
        have mc : ∀ c, ¬ c = 1 → M2.1 c = M.1 c := fun c hc => by rw [b5.1 c hc, a5.1 c hc]
        have v3 : ∀ k, ¬ k = 6 → (pI (pI M2 3 6 (nI (t + 1))) 5 (t + 1) x).1 3 k = M.1 3 k := fun k hk => by rw [(pI_o 3 (by decide)).1, pI_1, if_pos rfl, if_neg hk, mc 3 (by decide)]
        have v5 : ∀ k, ¬ k = t + 1 → (pI (pI M2 3 6 (nI (t + 1))) 5 (t + 1) x).1 5 k = M.1 5 k := fun k hk => by rw [pI_1, if_pos rfl, if_neg hk, (pI_o 5 (by decide)).1, mc 5 (by decide)]
        have vc : ∀ c, ¬ c = 1 → ¬ c = 3 → ¬ c = 5 → (pI (pI M2 3 6 (nI (t + 1))) 5 (t + 1) x).1 c = M.1 c := fun c c1 c3 c5 => by rw [(pI_o c c5).1, (pI_o c c3).1, mc c c1]
        refine ⟨⟨?_, ?_, ?_, ?_⟩, fun k hk => ?_, ⟨fun s x1 x2 => ?_, ?_⟩, fun i hi => by omega, fun i j hi => by omega, fun j j1 j2 => ?_⟩
        · exact (v3 5 (by decide)).trans ((d0.1).trans (w 9 (by omega) (by omega)).symm)
        · refine Eq.trans ?_ w6.symm
          show (pI (pI M2 3 6 (nI (t + 1))) 5 (t + 1) x).1 3 6 = _
          rw [(pI_o 3 (by decide)).1, pI_1, if_pos rfl, if_pos rfl]
        · exact (v3 7 (by decide)).trans ((d0.2.2.1).trans (w 7 (by omega) (by omega)).symm)
        · exact (v3 8 (by decide)).trans ((d0.2.2.2).trans (w 8 (by omega) (by omega)).symm)
        · exact (congrFun (vc 4 (by decide) (by decide) (by decide)) k).trans ((dh k hk).trans (w k (by omega) (by omega)).symm)
        · by_cases e : s = t + 1
          · subst e
            refine Eq.trans ?_ ((congrArg _ (show 9 + (t + 1) = 10 + t by omega)).trans wt).symm
            show (pI (pI M2 3 6 (nI (t + 1))) 5 (t + 1) x).1 5 (t + 1) = _
            rw [pI_1, if_pos rfl, if_pos rfl]
          · exact (v5 s e).trans ((ds s x1 (by omega)).trans (w (9 + s) (by omega) (by omega)).symm)
        · exact (v5 0 (by omega)).trans dz
        · exact (congrFun (vc 7 (by decide) (by decide) (by decide)) j).trans (dm j j1 j2)
  · obtain ⟨M', N', a1, a2, a3, a4, a5, a6⟩ := failE (x := 1) h h0 (by decide)
    have g : ¬ N'.1 80 12 = 0 := by rw [← a3.2.1.1]; exact a4
    rw [if_neg (show ¬ nI n ≤ (0 : Int32) from nI_ge (a := 0) (by omega) (by omega)), if_neg (show ¬ nI n ≤ (0 : Int32) from nI_ge (a := 0) (by omega) (by omega)), a1, bV_s, a2, bV_s]
    unfold fX10_readSpan_15 fX10_readSpan_31
    rw [show ib (6 : Int32) 215 = true from rfl, ck_t, errs0 g, bV_s, goodF g, bI_s]
    refine ⟨M', N', rfl, ?_, a3, fun z => absurd z a4, a5.c, a6.d⟩
    split <;> rfl
end Head
