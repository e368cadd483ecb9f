/-! The readers: words, numbers, faults, side by side. -/
section Words
variable {M N : Mem} {L : Nat}
def RS (L : Nat) (M N : Mem) : Prop := Tp L M N ∧ (M.1 1 2 = N.1 80 12 ∧ M.1 1 3 = N.1 80 13) ∧ (M.1 1 2 = 0 → Tok L M N)
def FA2 (M M' : Mem) : Prop := (∀ c, ¬ c = 1 → M'.1 c = M.1 c) ∧ (∀ k, ¬ (2 ≤ k ∧ k ≤ 7) → M'.1 1 k = M.1 1 k) ∧ M'.2 = M.2
def FB2 (N N' : Mem) : Prop := (∀ c, ¬ c = 80 → N'.1 c = N.1 c) ∧ (∀ k, ¬ (8 ≤ k ∧ k ≤ 13) → N'.1 80 k = N.1 80 k) ∧ N'.2 = N.2
theorem FA2.rf : FA2 M M := ⟨fun _ _ => rfl, fun _ _ => rfl, rfl⟩
theorem FB2.rf : FB2 N N := ⟨fun _ _ => rfl, fun _ _ => rfl, rfl⟩
theorem FA2.tr {A B C : Mem} (h : FA2 A B) (k : FA2 B C) : FA2 A C := ⟨fun c hc => (k.1 c hc).trans (h.1 c hc), fun j hj => (k.2.1 j hj).trans (h.2.1 j hj), k.2.2.trans h.2.2⟩
theorem FB2.tr {A B C : Mem} (h : FB2 A B) (k : FB2 B C) : FB2 A C := ⟨fun c hc => (k.1 c hc).trans (h.1 c hc), fun j hj => (k.2.1 j hj).trans (h.2.1 j hj), k.2.2.trans h.2.2⟩
theorem FA.w {A B : Mem} (h : FA A B) : FA2 A B := ⟨h.1, fun k hk => h.2.1 k (by omega), h.2.2⟩
theorem FB.w {A B : Mem} (h : FB A B) : FB2 A B := ⟨h.1, fun k hk => h.2.1 k (by omega), h.2.2⟩
theorem RS.mv {M' N' : Mem} (h : RS L M N) (a : M'.1 1 = M.1 1) (b : M'.1 2 = M.1 2) (c : N'.1 80 = N.1 80) (d : N'.1 84 = N.1 84) : RS L M' N' := by
  unfold RS Tp Tok Vr at *
  rw [a, b, c, d]; exact h
theorem goodT (h : N.1 80 12 = 0) : fX10_good 80 N = some (1, N) := by unfold fX10_good; rw [if_pos h]
theorem goodF (h : ¬ N.1 80 12 = 0) : fX10_good 80 N = some (0, N) := by unfold fX10_good; rw [if_neg h]
theorem errs0 (h : ¬ N.1 80 12 = 0) (x : Int32) : fX10_errs 80 x N = some N := by
  unfold fX10_errs
  rw [goodF h, bI_s, if_pos rfl]
theorem failE {x : Int32} (h : RS L M N) (h0 : M.1 1 2 = 0) (hx : ¬ x = 0) : ∃ M' N', fX3_fail 1 x M = some M' ∧ fX10_errs 80 x N = some N' ∧ RS L M' N' ∧ ¬ M'.1 1 2 = 0 ∧ FA2 M M' ∧ FB2 N N' := by
  obtain ⟨hT, ⟨e1, e2⟩, hk⟩ := h
  obtain ⟨st, be, k1, k2, k3, k4, k5, k6, k7, k8⟩ := hk h0
  unfold fX3_fail fX10_errs
  rw [goodT (by rw [← e1]; exact h0), bI_s, if_neg (by decide)]
  have q1 : (pI M 1 2 x).1 1 4 = nI st := by rw [pI_1, if_pos rfl, if_neg (by decide)]; exact k3
  have q2 : (pI N 80 12 x).1 80 9 = nI st := by rw [pI_1, if_pos rfl, if_neg (by decide)]; exact k4
  rw [q1, q2]
  have f1 : FA2 M (pI (pI M 1 2 x) 1 3 (nI st)) := ⟨fun c hc => by rw [(pI_o c hc).1, (pI_o c hc).1], fun k hk => by rw [pI_1, if_pos rfl, if_neg (by omega), pI_1, if_pos rfl, if_neg (by omega)], rfl⟩
  have f2 : FB2 N (pI (pI N 80 12 x) 80 13 (nI st)) := ⟨fun c hc => by rw [(pI_o c hc).1, (pI_o c hc).1], fun k hk => by rw [pI_1, if_pos rfl, if_neg (by omega), pI_1, if_pos rfl, if_neg (by omega)], rfl⟩
  have r1 : (pI (pI M 1 2 x) 1 3 (nI st)).1 1 2 = x := by rw [pI_1, if_pos rfl, if_neg (by decide), pI_1, if_pos rfl, if_pos rfl]
  have r2 : (pI (pI N 80 12 x) 80 13 (nI st)).1 80 12 = x := by rw [pI_1, if_pos rfl, if_neg (by decide), pI_1, if_pos rfl, if_pos rfl]
  refine ⟨_, _, rfl, rfl, ⟨⟨hT.1, ?_, ?_, ?_⟩, ⟨by rw [r1, r2], by rw [pI_1, if_pos rfl, if_pos rfl, pI_1, if_pos rfl, if_pos rfl]⟩, fun h => absurd (r1.symm.trans h) hx⟩, by rw [r1]; exact hx, f1, f2⟩
  · rw [f1.2.1 1 (by omega)]; exact hT.2.1
  · rw [f2.2.1 7 (by omega)]; exact hT.2.2.1
  · rw [f1.1 2 (by decide), f2.1 84 (by decide)]; exact hT.2.2.2
theorem advR (h : RS L M N) (h0 : M.1 1 2 = 0) : ∃ M' N', fX3_advance 1 M = some M' ∧ fX10_advance 80 N = some N' ∧ RS L M' N' ∧ M'.1 1 2 = 0 ∧ FA M M' ∧ FB N N' := by
  obtain ⟨hT, ⟨e1, e2⟩, hk⟩ := h
  obtain ⟨st, be, k1, k2, k3, k4, k5, k6, k7, k8⟩ := hk h0
  obtain ⟨M', N', a1, a2, a3, a4, a5⟩ := advE hT k2 k5 k6
  refine ⟨M', N', a1, a2, ⟨hT.fr a4 a5, ⟨?_, ?_⟩, fun _ => a3⟩, ?_, a4, a5⟩
  · rw [a4.2.1 2 (by omega), a5.2.1 12 (by omega)]; exact e1
  · rw [a4.2.1 3 (by omega), a5.2.1 13 (by omega)]; exact e2
  · rw [a4.2.1 2 (by omega)]; exact h0
theorem is0 (j f : Nat) (x : Int32) : fX10_is_39 (f + 1) 80 j 0 x N = some (0, N) := by
  unfold fX10_is_39
  by_cases h : nI (sl j) ≤ x
  · rw [if_pos h, show isB 0 = true from rfl, ck_t]
  · rw [if_neg h, if_pos rfl, show isB 0 = true from rfl, ck_t]
theorem isF (h : ¬ N.1 80 12 = 0) (j : Nat) : fX10_is 80 j N = some (0, N) := by
  unfold fX10_is fX10_is_35 fX10_is_36
  rw [goodF h, bI_s, if_pos rfl]
  exact is0 j 99999 0
theorem is28 {j j' st be : Nat} (hs : strs.getD j [] = strs.getD j' []) (hT : Tp L M N) (h4 : M.1 1 4 = nI st) (h9 : N.1 80 9 = nI st) (hb : be ≤ L) (hl : st + sl j = be) : ∀ (m i f f' : Nat), i + m = sl j → m < f → m + 1 < f' → ∃ b, fX3_isWord_28 f 1 j (nI i) M = some (wkI b, M) ∧ fX10_is_39 f' 80 j' 1 (nI i) N = some (wkI b, N) := by
  have h0 := hT.1
  have es : sl j' = sl j := by unfold sl; rw [hs]
  have ec : ∀ k, sc j' k = sc j k := fun k => by unfold sc; rw [hs]
  intro m
  induction m with
  | zero =>
    intro i f f' hm hf hf'
    cases f with
    | zero => omega
    | succ f =>
    cases f' with
    | zero => omega
    | succ f' =>
      unfold fX3_isWord_28 fX10_is_39
      rw [es, if_pos (nI_le (by omega) (by omega)), if_pos (nI_le (by omega) (by omega)), show isB 1 = true from rfl, ck_t]
      exact ⟨true, rfl, rfl⟩
  | succ m ih =>
    intro i f f' hm hf hf'
    cases f with
    | zero => omega
    | succ f =>
    cases f' with
    | zero => omega
    | succ f' =>
      unfold fX3_isWord_28 fX10_is_39 fX10_is_75
      rw [es, if_neg (nI_ge (by omega) (by omega)), if_neg (nI_ge (by omega) (by omega)), if_neg (show ¬ (1 : Int32) = 0 by decide), h4, h9, nI_add, ib_n (show st + i < 800 by omega) (by omega), ck_t, ck_t, ib_n (show i < sl j by omega) (by omega), ck_t, ck_t, tn_n (by omega), tn_n (by omega), ec, show N.1 (80 + 4) (st + i) = _ from (hT.2.2.2 (st + i) (by omega)).1, nI_1]
      by_cases c : M.1 2 (st + i) = sc j i
      · rw [if_pos (show M.1 (1 + 1) (st + i) = _ from c), if_pos c]
        exact ih (i + 1) f f' (by omega) (by omega) (by omega)
      · rw [if_neg (show ¬ M.1 (1 + 1) (st + i) = _ from c), if_neg c]
        obtain ⟨f'', rfl⟩ : ∃ z, f' = z + 1 := ⟨f' - 1, by omega⟩
        exact ⟨false, rfl, is0 j' f'' _⟩
theorem isE {j j' : Nat} (hs : strs.getD j [] = strs.getD j' []) (hj : sl j ≤ 10) (h : RS L M N) (h0 : M.1 1 2 = 0) : ∃ b, fX3_isWord 1 j M = some (wkI b, M) ∧ fX10_is 80 j' N = some (wkI b, N) := by
  obtain ⟨hT, ⟨e1, e2⟩, hk⟩ := h
  obtain ⟨st, be, k1, k2, k3, k4, k5, k6, k7, k8⟩ := hk h0
  have hL := hT.1
  have es : sl j' = sl j := by unfold sl; rw [hs]
  unfold fX3_isWord fX10_is
  rw [goodT (by rw [← e1]; exact h0), bI_s, if_neg (show ¬ (1 : Int32) = 0 by decide), k7, k6, k4, k5, k3, es, show nI be - nI st = nI (be - st) from pk_sub k1]
  by_cases c1 : M.1 1 6 = 1
  · rw [if_pos c1, if_pos c1]
    by_cases c2 : be - st = sl j
    · rw [if_pos (by rw [c2]), if_pos (by rw [c2])]
      unfold fX10_is_36
      exact is28 hs hT k3 k4 k2 (by omega) (sl j) 0 LF LF (by omega) (by unfold LF; omega) (by unfold LF; omega)
    · rw [if_neg (kE (by omega) (by omega) c2), if_neg (kE (by omega) (by omega) c2)]
      exact ⟨false, rfl, is0 j' 99999 0⟩
  · rw [if_neg c1, if_neg c1]
    exact ⟨false, rfl, is0 j' 99999 0⟩
-- a word that must stand there
theorem twE {j j' : Nat} (hs : strs.getD j [] = strs.getD j' []) (hj : sl j ≤ 10) (h : RS L M N) : ∃ M' N', fX3_takeWord 1 j M = some M' ∧ fX10_expects 80 j' N = some N' ∧ RS L M' N' ∧ (M'.1 1 2 = 0 → M.1 1 2 = 0) ∧ FA2 M M' ∧ FB2 N N' := by
  unfold fX3_takeWord fX10_expects
  by_cases h0 : M.1 1 2 = 0
  · obtain ⟨b, b1, b2⟩ := isE hs hj h h0
    rw [if_pos h0, b1, bI_s, b2, bI_s]
    by_cases hb : b = true
    · obtain ⟨M', N', a1, a2, a3, a4, a5, a6⟩ := advR h h0
      rw [wif_t hb, wif_t hb, a1, bV_s, a2, bV_s]
      exact ⟨M', N', rfl, rfl, a3, fun _ => h0, a5.w, a6.w⟩
    · obtain ⟨M', N', a1, a2, a3, a4, a5, a6⟩ := failE (x := 1) h h0 (by decide)
      rw [wif_f hb, wif_f hb, a1, bV_s, a2, bV_s]
      exact ⟨M', N', rfl, rfl, a3, fun _ => h0, a5, a6⟩
  · have h1 : ¬ N.1 80 12 = 0 := by rw [← h.2.1.1]; exact h0
    rw [if_neg h0, isF h1, bI_s, if_pos rfl, errs0 h1, bV_s]
    exact ⟨M, N, rfl, rfl, h, fun x => x, FA2.rf, FB2.rf⟩
-- a number within bounds that must stand there
theorem tk47 (h : ¬ N.1 80 12 = 0) : fX10_takes_47 80 N = some (0, N) := by
  unfold fX10_takes_47
  rw [goodF h, bI_s, if_pos rfl]
theorem tk20 (h : ¬ N.1 80 12 = 0) (x y : Int32) : fX10_takes_20 80 x y N = some (0, N) := by
  unfold fX10_takes_20
  rw [goodF h, bI_s, if_pos rfl]
  exact tk47 h
theorem tnE {a b : Nat} (hb : b ≤ 999) (ha : a ≤ 100) (h : RS L M N) : ∃ x M' N', fX3_takeNumber 1 (nI a) (nI b) M = some (x, M') ∧ fX10_takes 80 (nI a) (nI b) N = some (x, N') ∧ RS L M' N' ∧ (M'.1 1 2 = 0 → M.1 1 2 = 0 ∧ ∃ q, a ≤ q ∧ q ≤ b ∧ x = nI q) ∧ FA2 M M' ∧ FB2 N N' := by
  unfold fX3_takeNumber fX10_takes
  by_cases h0 : M.1 1 2 = 0
  · have h1 : N.1 80 12 = 0 := by rw [← h.2.1.1]; exact h0
    obtain ⟨st, be, k1, k2, k3, k4, k5, k6, k7, k8⟩ := h.2.2 h0
    rw [if_pos h0, goodT h1, bI_s, if_neg (show ¬ (1 : Int32) = 0 by decide), k7]
    by_cases c : M.1 1 6 = 2
    · obtain ⟨v, w, v1, v2, v3, v4, v5⟩ := k8 c
      unfold fX10_takes_20
      rw [if_pos c, if_pos c, goodT h1, bI_s, if_neg (show ¬ (1 : Int32) = 0 by decide), wX _ _ _ (nI a) (nI b) rfl rfl, bI_s, wM _ _ _ (nI a) (nI b) rfl rfl, bI_s]
      by_cases d : inS (M.1 1 7) (nI a) (nI b) = true
      · obtain ⟨q, q1, q2, eq⟩ := in_ab (by omega) (by omega) d
        have ev : v = q := (nI_eq (by omega) (by omega)).mp (v1.symm.trans eq)
        have ew : w = q := by omega
        have e11 : N.1 80 11 = M.1 1 7 := by rw [v1, v2, ev, ew]
        obtain ⟨M', N', a1, a2, a3, a4, a5, a6⟩ := advR h h0
        unfold fX10_takes_47
        rw [e11, wif_t d, wif_t d, a1, bV_s, goodT h1, bI_s, if_neg (show ¬ (1 : Int32) = 0 by decide), a2, bV_s, e11]
        exact ⟨_, M', N', rfl, rfl, a3, fun _ => ⟨h0, q, q1, q2, eq⟩, a5.w, a6.w⟩
      · have dw : ¬ inS (N.1 80 11) (nI a) (nI b) = true := by
          intro z
          obtain ⟨q, q1, q2, eq⟩ := in_ab (by omega) (by omega) z
          have ew : w = q := (nI_eq (by omega) (by omega)).mp (v2.symm.trans eq)
          have ev : v = q := by omega
          apply d
          rw [v1, ev, ← ew, ← v2]; exact z
        obtain ⟨M', N', a1, a2, a3, a4, a5, a6⟩ := failE (x := 2) h h0 (by decide)
        rw [wif_f d, wif_f dw, a1, bV_s, a2, bV_s, tk47 (by rw [← a3.2.1.1]; exact a4)]
        exact ⟨_, M', N', rfl, rfl, a3, fun z => absurd z a4, a5, a6⟩
    · obtain ⟨M', N', a1, a2, a3, a4, a5, a6⟩ := failE (x := 1) h h0 (by decide)
      rw [if_neg c, if_neg c, a1, bV_s, a2, bV_s, tk20 (by rw [← a3.2.1.1]; exact a4)]
      exact ⟨_, M', N', rfl, rfl, a3, fun z => absurd z a4, a5, a6⟩
  · have h1 : ¬ N.1 80 12 = 0 := by rw [← h.2.1.1]; exact h0
    rw [if_neg h0, goodF h1, bI_s, if_pos rfl, tk20 h1]
    exact ⟨0, M, N, rfl, rfl, h, fun z => absurd z h0, FA2.rf, FB2.rf⟩
end Words
