/-! The readers: ops and whole lines. -/
section Line
variable {M N : Mem} {L : Nat}
theorem opW {k : Nat} (hk : k < 11) (M : Mem) : fX3_opWord (nI k) M = some (8 + k, M) ∧ fX10_wordOf (nI k) M = some (25 + k, M) ∧ strs.getD (8 + k) [] = strs.getD (25 + k) [] ∧ sl (8 + k) ≤ 10 := by
  have : k = 0 ∨ k = 1 ∨ k = 2 ∨ k = 3 ∨ k = 4 ∨ k = 5 ∨ k = 6 ∨ k = 7 ∨ k = 8 ∨ k = 9 ∨ k = 10 := by omega
  rcases this with rfl | rfl | rfl | rfl | rfl | rfl | rfl | rfl | rfl | rfl | rfl <;> exact ⟨rfl, rfl, by decide, by decide⟩
theorem kdE (h : RS L M N) (h0 : M.1 1 2 = 0) : ∀ (m k f f' : Nat), k + m = 11 → m < f → m < f' → ∃ x, fX3_kindOfWord_2 f 1 (nI k) M = some (x, M) ∧ fX10_kindRead_2 f' 80 (nI k) N = some (x, N) ∧ (x = -1 ∨ ∃ q, q ≤ 10 ∧ x = nI q) := by
  intro m
  induction m with
  | zero =>
    intro k f f' hm hf hf'
    cases f with
    | zero => omega
    | succ f =>
    cases f' with
    | zero => omega
    | succ f' =>
      unfold fX3_kindOfWord_2 fX10_kindRead_2
      rw [if_pos (show (10 : Int32) < nI k from nI_lt (a := 10) (by omega) (by omega)), if_pos (show (10 : Int32) < nI k from nI_lt (a := 10) (by omega) (by omega))]
      exact ⟨-1, rfl, rfl, Or.inl rfl⟩
  | succ m ih =>
    intro k f f' hm hf hf'
    cases f with
    | zero => omega
    | succ f =>
    cases f' with
    | zero => omega
    | succ f' =>
      obtain ⟨w1, -, w3, w4⟩ := opW (show k < 11 by omega) M
      obtain ⟨-, w2, -, -⟩ := opW (show k < 11 by omega) N
      obtain ⟨b, b1, b2⟩ := isE w3 w4 h h0
      unfold fX3_kindOfWord_2 fX10_kindRead_2
      rw [if_neg (show ¬ (10 : Int32) < nI k from nI_nlt (a := 10) (by omega) (by omega)), if_neg (show ¬ (10 : Int32) < nI k from nI_nlt (a := 10) (by omega) (by omega)), w1, w2]
      show ∃ x, (bI (fX3_isWord 1 (8 + k) M) fun r4 M3 => if r4 = 0 then fX3_kindOfWord_2 f 1 (nI k + 1) M3 else some (nI k, M3)) = some (x, M) ∧ (bI (fX10_is 80 (25 + k) N) fun r4 M3 => if r4 = 0 then fX10_kindRead_2 f' 80 (nI k + 1) M3 else some (nI k, M3)) = some (x, N) ∧ _
      rw [b1, bI_s, b2, bI_s]
      by_cases hb : b = true
      · rw [wif_t hb, wif_t hb]
        exact ⟨nI k, rfl, rfl, Or.inr ⟨k, by omega, rfl⟩⟩
      · rw [wif_f hb, wif_f hb, nI_1]
        exact ih (k + 1) f f' (by omega) (by omega) (by omega)
def fo (k : Nat) : Nat := if k ≤ 2 then 19 else if k ≤ 5 then 20 else if k ≤ 7 then 21 else if k = 8 then 22 else if k = 9 then 23 else 24
def lnK (k : Nat) : Nat := if k = 6 then 3 else if k = 7 then 3 else if k = 9 then 1 else if k = 10 then 0 else 2
def hiK (k i : Nat) : Nat := if i = 0 then (if k = 9 then 39 else 7) else if i = 1 then (if k ≤ 2 then 999 else if k = 8 then 39 else 7) else 39
theorem hiK_le (k i : Nat) : hiK k i ≤ 999 := by
  unfold hiK
  split <;> (try split) <;> (try split) <;> (try split) <;> omega
theorem foK {k : Nat} (hk : k < 11) (M N : Mem) : fX3_formOf (nI k) M = some (fo k, M) ∧ sl (fo k) = lnK k ∧ fX10_numbersOf (nI k) N = some (nI (lnK k), N) ∧ lnK k ≤ 3 := by
  have : k = 0 ∨ k = 1 ∨ k = 2 ∨ k = 3 ∨ k = 4 ∨ k = 5 ∨ k = 6 ∨ k = 7 ∨ k = 8 ∨ k = 9 ∨ k = 10 := by omega
  rcases this with rfl | rfl | rfl | rfl | rfl | rfl | rfl | rfl | rfl | rfl | rfl <;> exact ⟨rfl, by decide, rfl, by decide⟩
def moV (x : Int32) : Int32 := if x = 82 then 7 else if x = 78 then 999 else 39
theorem moV_e (x : Int32) (M : Mem) : fX3_mostOf x M = some (moV x, M) := by
  unfold fX3_mostOf moV
  by_cases h1 : x = 82
  · rw [if_pos h1, if_pos h1]
  · rw [if_neg h1, if_neg h1]
    by_cases h2 : x = 78
    · rw [if_pos h2, if_pos h2]
    · rw [if_neg h2, if_neg h2]
def h19 (x y : Int32) : Int32 := if y = 1 then (if (3 : Int32) ≤ x then 7 else 999) else 7
theorem h19_e (x y : Int32) (M : Mem) : fX10_highOf_19 x y M = some (h19 x y, M) := by
  unfold fX10_highOf_19 h19
  by_cases h1 : y = 1
  · rw [if_pos h1, if_pos h1]
    by_cases h2 : (3 : Int32) ≤ x
    · rw [if_pos h2, if_pos h2]
    · rw [if_neg h2, if_neg h2]
  · rw [if_neg h1, if_neg h1]
def hiV (x y r : Int32) : Int32 := if y = r - 1 then (if x < 6 then h19 x y else 39) else h19 x y
theorem moD : ∀ k, k < 11 → ∀ i, i < 3 → i < lnK k → moV (sc (fo k) i) = nI (hiK k i) ∧ hiV (nI k) (nI i) (nI (lnK k)) = nI (hiK k i) := by decide +kernel
theorem moK {k i : Nat} (hk : k < 11) (hi : i < lnK k) (M N : Mem) : fX3_mostOf (sc (fo k) i) M = some (nI (hiK k i), M) ∧ fX10_highOf (nI k) (nI i) N = some (nI (hiK k i), N) := by
  obtain ⟨-, -, w3, w4⟩ := foK hk M N
  obtain ⟨d1, d2⟩ := moD k hk i (by omega) hi
  refine ⟨by rw [moV_e, d1], ?_⟩
  unfold fX10_highOf
  rw [w3, bI_s, h19_e, ← d2]
  unfold hiV
  by_cases h1 : nI i = nI (lnK k) - 1
  · rw [if_pos h1, if_pos h1]
    by_cases h2 : nI k < (6 : Int32)
    · rw [if_pos h2, if_pos h2]
    · rw [if_neg h2, if_neg h2]
  · rw [if_neg h1, if_neg h1]
theorem op_mk {W : Wd} {i k : Nat} (hk : k ≤ 10) (h1 : W (15 + 4 * i) = nI k) (h2 : ∀ j, j < lnK k → ∃ q, q ≤ hiK k j ∧ W (16 + 4 * i + j) = nI q) : OpOk W i := by
  have eK : KK W i = k := by unfold KK; rw [h1, tn_n (by omega)]
  have eN : ∀ j, j < lnK k → W (16 + 4 * i + j) = nI (NN W i j) ∧ NN W i j ≤ hiK k j := by
    intro j hj
    obtain ⟨q, q1, q2⟩ := h2 j hj
    have := hiK_le k j
    have e : NN W i j = q := by unfold NN; rw [q2, tn_n (by omega)]
    rw [e]; exact ⟨q2, q1⟩
  unfold OpOk
  rw [eK]
  refine ⟨⟨h1, hk⟩, fun z => ?_, fun z => ?_, fun z1 z2 => ?_, fun z => ?_, fun z => ?_, fun z => ?_⟩
  · obtain ⟨a, b⟩ := eN 0 (by unfold lnK; split <;> (try split) <;> (try split) <;> (try split) <;> omega)
    refine ⟨a, ?_⟩
    have : hiK k 0 = 7 := by unfold hiK; rw [if_pos rfl, if_neg (by omega)]
    omega
  · obtain ⟨a, b⟩ := eN 1 (by unfold lnK; split <;> (try split) <;> (try split) <;> (try split) <;> omega)
    refine ⟨a, ?_⟩
    have := hiK_le k 1
    omega
  · obtain ⟨a, b⟩ := eN 1 (by unfold lnK; split <;> (try split) <;> (try split) <;> (try split) <;> omega)
    refine ⟨a, ?_⟩
    have : hiK k 1 = 7 := by unfold hiK; rw [if_neg (by omega), if_pos rfl, if_neg (by omega), if_neg (by omega)]
    omega
  · obtain ⟨a, b⟩ := eN 1 (by unfold lnK; split <;> (try split) <;> (try split) <;> (try split) <;> omega)
    refine ⟨a, ?_⟩
    have : hiK k 1 = 39 := by unfold hiK; rw [if_neg (by omega), if_pos rfl, if_neg (by omega), if_pos z]
    omega
  · obtain ⟨a, b⟩ := eN 0 (by unfold lnK; split <;> (try split) <;> (try split) <;> (try split) <;> omega)
    refine ⟨a, ?_⟩
    have : hiK k 0 = 39 := by unfold hiK; rw [if_pos rfl, if_pos z]
    omega
  · obtain ⟨a, b⟩ := eN 2 (by unfold lnK; split <;> (try split) <;> (try split) <;> (try split) <;> omega)
    refine ⟨a, ?_⟩
    have : hiK k 2 = 39 := by unfold hiK; rw [if_neg (by omega), if_neg (by omega)]
    omega
theorem bS_w {β : Type} (v : Nat) (M : Mem) (f : Nat → Mem → Option β) : bS (some (v, M)) f = f v M := rfl
theorem r66 (f : Nat) (x1 x2 x3 : Int32) (N : Mem) : fX10_readOp_66 (f + 1) 80 x1 x2 x3 N = if (3 : Int32) ≤ x3 then ck (ib (7 : Int32) 215) (ck (ib (7 : Int32) 215) (some (pI N (80 + 6) (tn (7 : Int32)) ((N.1 (80 + 6) (tn (7 : Int32))) + (1 : Int32))))) else bI (fX10_numbersOf x1 N) fun r2 M1 => if r2 ≤ x3 then fX10_readOp_102 (fX10_readOp_66 f) 80 x1 x2 x3 (80 + 6) ((x2 + (1 : Int32)) + x3) (-1 : Int32) M1 else bI (fX10_highOf x1 x3 M1) fun r4 M3 => bI (fX10_takes 80 (0 : Int32) r4 M3) fun r6 M5 => fX10_readOp_102 (fX10_readOp_66 f) 80 x1 x2 x3 (80 + 6) ((x2 + (1 : Int32)) + x3) r6 M5 := rfl
-- the numbers of an op
def Nu (k n i : Nat) (M0 N0 M N : Mem) : Prop := (∀ c, 3 ≤ c → c ≤ 8 → ¬ c = 7 → M.1 c = M0.1 c) ∧ (∀ j, j < 120 → ¬ (3 * n ≤ j ∧ j < 3 * n + i) → M.1 7 j = M0.1 7 j) ∧ (∀ s, s < 215 → ¬ (16 + 4 * n ≤ s ∧ s < 16 + 4 * n + i) → N.1 86 s = N0.1 86 s) ∧ (∀ j, j < i → j < 3 → M.1 7 (3 * n + j) = N.1 86 (16 + 4 * n + j)) ∧ (M.1 1 2 = 0 → M0.1 1 2 = 0 ∧ ∀ j, j < i → ∃ q, q ≤ hiK k j ∧ N.1 86 (16 + 4 * n + j) = nI q)
theorem nuE {k n : Nat} (hk : k < 11) (hn : n < 40) {M0 N0 : Mem} (h7 : M0.1 3 7 = nI n) : ∀ (m i f f' : Nat) (M N : Mem), i + m = lnK k → m < f → m + 3 < f' → RS L M N → Nu k n i M0 N0 M N → ∃ M' N' f'', fX3_readOp_47 f 1 3 (nI k) (fo k) (nI i) M = some (pI (pI M' 6 n (nI k)) 3 7 (nI (n + 1))) ∧ fX10_readOp_66 f' 80 (nI k) (nI (15 + 4 * n)) (nI i) N = fX10_readOp_66 f'' 80 (nI k) (nI (15 + 4 * n)) (nI (lnK k)) N' ∧ 3 < f'' ∧ RS L M' N' ∧ Nu k n (lnK k) M0 N0 M' N' ∧ FrC M M' ∧ FrD N N' := by
  obtain ⟨-, w2, -, w4⟩ := foK hk M0 N0
  intro m
  induction m with
  | zero =>
    intro i f f' M N hm hf hf' hR hU
    have : i = lnK k := by omega
    subst this
    cases f with
    | zero => omega
    | succ f =>
      have e7 : M.1 3 7 = nI n := by rw [hU.1 3 (by omega) (by omega) (by omega)]; exact h7
      unfold fX3_readOp_47
      rw [w2, if_pos (nI_le (Nat.le_refl _) (by omega)), e7, ib_n hn (by omega), ck_t, tn_n (by omega), show (pI M (3 + 3) n (nI k)).1 3 7 = nI n by rw [(pI_o 3 (by decide)).1]; exact e7, nI_1]
      exact ⟨M, N, f', rfl, rfl, by omega, hR, hU, FrC.rf, FrD.rf⟩
  | succ m ih =>
    intro i f f' M N hm hf hf' hR hU
    cases f with
    | zero => omega
    | succ f =>
    cases f' with
    | zero => omega
    | succ f' =>
      obtain ⟨v1, -⟩ := moK hk (show i < lnK k by omega) M N
      obtain ⟨-, v2⟩ := moK hk (show i < lnK k by omega) M N
      obtain ⟨-, -, w3, -⟩ := foK hk M N
      have e7 : M.1 3 7 = nI n := by rw [hU.1 3 (by omega) (by omega) (by omega)]; exact h7
      obtain ⟨x, M1, N1, b1, b2, b3, b4, b5, b6⟩ := tnE (a := 0) (b := hiK k i) (hiK_le k i) (by omega) hR
      have r2 : RS L (pI M1 7 (3 * n + i) x) (pI N1 86 (16 + 4 * n + i) x) := b3.dr (fun c hc => (pI_o c (by omega)).1) (fun c hc => (pI_o c hc).1)
      have hU2 : Nu k n (i + 1) M0 N0 (pI M1 7 (3 * n + i) x) (pI N1 86 (16 + 4 * n + i) x) := by
        obtain ⟨u1, u2, u3, u4, u5⟩ := hU
        refine ⟨fun c c1 c2 c3 => ?_, fun j j1 j2 => ?_, fun s s1 s2 => ?_, fun j j1 j2 => ?_, fun z => ?_⟩
        · rw [(pI_o c c3).1, b5.1 c (by omega)]; exact u1 c c1 c2 c3
        · rw [pI_1, if_pos rfl, if_neg (by omega), b5.1 7 (by decide)]; exact u2 j j1 (by omega)
        · rw [pI_1, if_pos rfl, if_neg (by omega), b6.1 86 (by decide)]; exact u3 s s1 (by omega)
        · rw [pI_1, if_pos rfl, pI_1, if_pos rfl]
          by_cases e : j = i
          · rw [if_pos (by omega), if_pos (by omega)]
          · rw [if_neg (by omega), if_neg (by omega), b5.1 7 (by decide), b6.1 86 (by decide)]; exact u4 j (by omega) j2
        · rw [(pI_o 1 (by decide)).1] at z
          obtain ⟨z0, q, q1, q2, q3⟩ := b4 z
          obtain ⟨z1, z2⟩ := u5 z0
          refine ⟨z1, fun j hj => ?_⟩
          by_cases e : j = i
          · subst e
            exact ⟨q, q2, by rw [pI_1, if_pos rfl, if_pos rfl]; exact q3⟩
          · obtain ⟨p, p1, p2⟩ := z2 j (by omega)
            exact ⟨p, p1, by rw [pI_1, if_pos rfl, if_neg (by omega), b6.1 86 (by decide)]; exact p2⟩
      obtain ⟨M', N', f'', c1, c2, c3, c4, c5, c6, c7⟩ := ih (i + 1) f f' _ _ (by omega) (by omega) (by omega) r2 hU2
      refine ⟨M', N', f'', ?_, ?_, c3, c4, c5, (b5.c.tr (FrC.p (by omega) (by omega))).tr c6, (b6.d.tr FrD.p).tr c7⟩
      · unfold fX3_readOp_47
        rw [w2, if_neg (nI_ge (by omega) (by omega)), ib_n (show i < lnK k by omega) (by omega), ck_t, tn_n (by omega), v1, bI_s, show fX3_takeNumber 1 0 (nI (hiK k i)) M = _ from b1, bI_s, e7, n3, nI_add, ib_n (show 3 * n + i < 120 by omega) (by omega), ck_t, tn_n (by omega), nI_1]
        exact c1
      · rw [r66]
        unfold fX10_readOp_102
        rw [if_neg (show ¬ (3 : Int32) ≤ nI i from nI_ge (b := 3) (by omega) (by omega)), w3, bI_s, if_neg (nI_ge (by omega) (by omega)), v2, bI_s, show fX10_takes 80 0 (nI (hiK k i)) N = _ from b2, bI_s, show nI (15 + 4 * n) + 1 + nI i = nI (16 + 4 * n + i) by rw [nI_1, nI_add]; congr 1; omega, ib_n (show 16 + 4 * n + i < 215 by omega) (by omega), ck_t, tn_n (by omega), nI_1]
        exact c2
theorem nu66 {k n : Nat} (hk : k < 11) (hn : n < 40) {N0 : Mem} (h7 : N0.1 86 7 = nI n) : ∀ (m i f : Nat) (N : Mem), i + m = 3 → m < f → lnK k ≤ i → (∀ c, ¬ c = 86 → N.1 c = N0.1 c) → N.2 = N0.2 → (∀ s, N.1 86 s = if 16 + 4 * n + lnK k ≤ s ∧ s < 16 + 4 * n + i then -1 else N0.1 86 s) → ∃ N', fX10_readOp_66 f 80 (nI k) (nI (15 + 4 * n)) (nI i) N = some (pI N' 86 7 (nI (n + 1))) ∧ (∀ c, ¬ c = 86 → N'.1 c = N0.1 c) ∧ N'.2 = N0.2 ∧ (∀ s, N'.1 86 s = if 16 + 4 * n + lnK k ≤ s ∧ s < 19 + 4 * n then -1 else N0.1 86 s) := by
  intro m
  induction m with
  | zero =>
    intro i f N hm hf hi h1 h2 h3
    have : i = 3 := by omega
    subst this
    cases f with
    | zero => omega
    | succ f =>
      unfold fX10_readOp_66
      rw [if_pos (show (3 : Int32) ≤ nI 3 from nI_le (a := 3) (b := 3) (by omega) (by omega)), show ib (7 : Int32) 215 = true from rfl, ck_t, ck_t, show tn (7 : Int32) = 7 from rfl, show N.1 (80 + 6) 7 = nI n by rw [show N.1 (80 + 6) 7 = _ from h3 7, if_neg (by omega)]; exact h7, nI_1]
      exact ⟨N, rfl, h1, h2, fun s => by rw [h3 s, show 16 + 4 * n + 3 = 19 + 4 * n by omega]⟩
  | succ m ih =>
    intro i f N hm hf hi h1 h2 h3
    cases f with
    | zero => omega
    | succ f =>
      obtain ⟨-, -, w3, w4⟩ := foK hk N N
      unfold fX10_readOp_66 fX10_readOp_102
      rw [if_neg (show ¬ (3 : Int32) ≤ nI i from nI_ge (b := 3) (by omega) (by omega)), w3, bI_s, if_pos (nI_le hi (by omega)), show nI (15 + 4 * n) + 1 + nI i = nI (16 + 4 * n + i) by rw [nI_1, nI_add]; congr 1; omega, ib_n (show 16 + 4 * n + i < 215 by omega) (by omega), ck_t, tn_n (by omega), nI_1]
      refine ih (i + 1) f _ (by omega) (by omega) (by omega) (fun c hc => by rw [(pI_o c hc).1]; exact h1 c hc) h2 (fun s => ?_)
      rw [show (pI N (80 + 6) (16 + 4 * n + i) (-1)).1 86 s = _ from pI_1 .., if_pos rfl, h3 s]
      by_cases e : s = 16 + 4 * n + i
      · rw [if_pos e, if_pos (by omega)]
      · rw [if_neg e]
        by_cases e2 : 16 + 4 * n + lnK k ≤ s ∧ s < 16 + 4 * n + i
        · rw [if_pos e2, if_pos (by omega)]
        · rw [if_neg e2, if_neg (by omega)]
theorem opE {l t n : Nat} (h : RS L M N) (h0 : M.1 1 2 = 0) (hI : LnI l t n M N) (hl : l = 1 + t + n) : ∃ M' N', fX3_readOp 1 3 M = some M' ∧ fX10_readOp 80 N = some N' ∧ RS L M' N' ∧ (M'.1 1 2 = 0 → ∃ t' n', LnI l t' n' M' N' ∧ l = t' + n') ∧ FrC M M' ∧ FrD N N' := by
  obtain ⟨x, x1, x2, x3⟩ := kdE h h0 11 0 LF LF (by omega) (by unfold LF; omega) (by unfold LF; omega)
  obtain ⟨⟨⟨p6, pt⟩, ⟨p7, pn⟩, p8, p9, ph, ⟨sp, s1, s2⟩, po⟩, ⟨d0, dh, ⟨ds, dz⟩, dk, dn, dm⟩⟩ := hI
  unfold fX3_readOp fX10_readOp fX3_kindOfWord fX10_kindRead
  rw [show fX3_kindOfWord_2 LF 1 0 M = _ from x1, bI_s, show fX10_kindRead_2 LF 80 0 N = _ from x2, bI_s]
  have bad : ∀ (z : Int32) (N' : Mem), ¬ N'.1 80 12 = 0 → fX10_readOp_32 80 z N' = some N' := by
    intro z N' g
    unfold fX10_readOp_32
    rw [goodF g, bI_s, if_pos rfl]
  rcases x3 with e | ⟨k, hk, e⟩
  · obtain ⟨M', N', a1, a2, a3, a4, a5, a6⟩ := failE (x := 1) h h0 (by decide)
    have g : ¬ N'.1 80 12 = 0 := by rw [← a3.2.1.1]; exact a4
    rw [e, if_pos rfl, if_pos rfl, a1, bV_s, a2, bV_s]
    unfold fX10_readOp_15
    rw [show ib (7 : Int32) 215 = true from rfl, ck_t, errs0 g, bV_s, bad _ N' g]
    refine ⟨M', N', rfl, ?_, a3, fun z => absurd z a4, a5.c, a6.d⟩
    split <;> rfl
  · have ne1 : ¬ x = -1 := by
      rw [e]; intro z
      have := congrArg Int32.toInt z
      rw [nI_toInt (by omega)] at this
      have h2 : (-1 : Int32).toInt = -1 := rfl
      omega
    rw [if_neg ne1, if_neg ne1, e, d0.2.2.1, p7]
    unfold fX10_readOp_15
    rw [show ib (7 : Int32) 215 = true from rfl, ck_t, show tn (7 : Int32) = 7 from rfl, show N.1 (80 + 6) 7 = nI n from p7]
    by_cases hn : n = 40
    · subst hn
      obtain ⟨M', N', a1, a2, a3, a4, a5, a6⟩ := failE (x := 3) h h0 (by decide)
      have g : ¬ N'.1 80 12 = 0 := by rw [← a3.2.1.1]; exact a4
      rw [if_pos (show nI 40 = (40 : Int32) from rfl), if_pos (show nI 40 = (40 : Int32) from rfl), a1, bV_s, a2, bV_s, bad _ N' g]
      exact ⟨M', N', rfl, rfl, a3, fun z => absurd z a4, a5.c, a6.d⟩
    · obtain ⟨M1, N1, a1, a2, a3, a4, a5, a6⟩ := advR h h0
      have n86 : N1.1 86 = N.1 86 := a6.1 86 (by decide)
      unfold fX10_readOp_32
      rw [if_neg (show ¬ nI n = (40 : Int32) from kE (n := 40) (by omega) (by omega) hn), if_neg (show ¬ nI n = (40 : Int32) from kE (n := 40) (by omega) (by omega) hn), a1, bV_s, goodT (by rw [← h.2.1.1]; exact h0), bI_s, if_neg (show ¬ (1 : Int32) = 0 by decide), a2, bV_s, show ib (7 : Int32) 215 = true from rfl, ck_t, show tn (7 : Int32) = 7 from rfl, show N1.1 (80 + 6) 7 = nI n by rw [show N1.1 (80 + 6) = N.1 86 from n86]; exact p7, show (15 : Int32) + 4 * nI n = nI (15 + 4 * n) by rw [show (4 : Int32) * nI n = nI (4 * n) from pk_mul 4 n]; exact nI_add 15 (4 * n), ib_n (show 15 + 4 * n < 215 by omega) (by omega), ck_t, tn_n (by omega), (foK (show k < 11 by omega) M1 M1).1, bS_w]
      have r1 : RS L M1 (pI N1 86 (15 + 4 * n) (nI k)) := a3.dr (fun _ _ => rfl) (fun c hc => (pI_o c hc).1)
      have m37 : M1.1 3 7 = nI n := by rw [a5.1 3 (by decide), d0.2.2.1]; exact p7
      obtain ⟨M2, N2, f2, c1, c2, c3, c4, c5, c6, c7⟩ := nuE (L := L) (k := k) (n := n) (by omega) (by omega) (M0 := M1) (N0 := pI N1 86 (15 + 4 * n) (nI k)) m37 (lnK k) 0 LF LF M1 (pI N1 86 (15 + 4 * n) (nI k)) (by omega) (by have := (foK (show k < 11 by omega) M1 M1).2.2.2; unfold LF; omega) (by have := (foK (show k < 11 by omega) M1 M1).2.2.2; unfold LF; omega) r1 ⟨fun _ _ _ _ => rfl, fun _ _ _ => rfl, fun _ _ _ => rfl, fun j hj => by omega, fun z => ⟨z, fun j hj => by omega⟩⟩
      obtain ⟨u1, u2, u3, u4, u5⟩ := c5
      have l3 := (foK (show k < 11 by omega) M1 M1).2.2.2
      have n72 : N2.1 86 7 = nI n := by rw [u3 7 (by omega) (by omega), pI_1, if_pos rfl, if_neg (by omega), n86]; exact p7
      obtain ⟨N3, e1, e2, e3, e4⟩ := nu66 (k := k) (n := n) (by omega) (by omega) (N0 := N2) n72 (3 - lnK k) (lnK k) f2 N2 (by omega) (by omega) (Nat.le_refl _) (fun _ _ => rfl) rfl (fun s => by rw [if_neg (by omega)])
      rw [show fX3_readOp_47 LF 1 3 (nI k) (fo k) 0 M1 = _ from c1, show fX10_readOp_66 LF 80 (nI k) (nI (15 + 4 * n)) 0 (pI N1 (80 + 6) (15 + 4 * n) (nI k)) = _ from c2.trans e1]
      -- what stands in the draft now
      have w : ∀ s, s < 215 → ¬ s = 7 → ¬ (15 + 4 * n ≤ s ∧ s < 19 + 4 * n) → (pI N3 86 7 (nI (n + 1))).1 86 s = N.1 86 s := fun s x1 x2 x3 => by
        rw [pI_1, if_pos rfl, if_neg x2, e4 s, if_neg (by omega), u3 s x1 (by omega), pI_1, if_pos rfl, if_neg (by omega), n86]
      have w7 : (pI N3 86 7 (nI (n + 1))).1 86 7 = nI (n + 1) := by rw [pI_1, if_pos rfl, if_pos rfl]
      have wk : (pI N3 86 7 (nI (n + 1))).1 86 (15 + 4 * n) = nI k := by
        rw [pI_1, if_pos rfl, if_neg (by omega), e4 _, if_neg (by omega), u3 _ (by omega) (by omega), pI_1, if_pos rfl, if_pos rfl]
      have wj : ∀ j, j < lnK k → (pI N3 86 7 (nI (n + 1))).1 86 (16 + 4 * n + j) = N2.1 86 (16 + 4 * n + j) := fun j hj => by
        rw [pI_1, if_pos rfl, if_neg (by omega), e4 _, if_neg (by omega)]
      have wm : ∀ j, lnK k ≤ j → j < 3 → (pI N3 86 7 (nI (n + 1))).1 86 (16 + 4 * n + j) = -1 := fun j h1 h2 => by
        rw [pI_1, if_pos rfl, if_neg (by omega), e4 _, if_pos (by omega)]
      have mc : ∀ c, 3 ≤ c → c ≤ 8 → ¬ c = 7 → M2.1 c = M.1 c := fun c x y z => by rw [u1 c x y z, a5.1 c (by omega)]
      have v3 : ∀ s, ¬ s = 7 → (pI (pI M2 6 n (nI k)) 3 7 (nI (n + 1))).1 3 s = M.1 3 s := fun s hs => by rw [pI_1, if_pos rfl, if_neg hs, (pI_o 3 (by decide)).1, mc 3 (by omega) (by omega) (by omega)]
      have v6 : ∀ s, (pI (pI M2 6 n (nI k)) 3 7 (nI (n + 1))).1 6 s = if s = n then nI k else M.1 6 s := fun s => by rw [(pI_o 6 (by decide)).1, pI_1, if_pos rfl, mc 6 (by omega) (by omega) (by omega)]
      have v7 : (pI (pI M2 6 n (nI k)) 3 7 (nI (n + 1))).1 7 = M2.1 7 := by rw [(pI_o 7 (by decide)).1, (pI_o 7 (by decide)).1]
      have vc : ∀ c, 4 ≤ c → c ≤ 5 → (pI (pI M2 6 n (nI k)) 3 7 (nI (n + 1))).1 c = M.1 c := fun c x y => by rw [(pI_o c (by omega)).1, (pI_o c (by omega)).1, mc c (by omega) (by omega) (by omega)]
      refine ⟨_, _, rfl, rfl, c4.dr (fun c hc => by rw [(pI_o c (by omega)).1, (pI_o c (by omega)).1]) (fun c hc => by rw [(pI_o c hc).1, e2 c hc]), fun z => ⟨t, n + 1, ⟨?_, ?_⟩, by omega⟩, (a5.w.c.tr c6).tr ((FrC.p (by omega) (by omega)).tr (FrC.p (by omega) (by omega))), ((a6.w.d.tr FrD.p).tr c7).tr (FrD.tr ⟨fun c _ y => e2 c y, fun j _ => by rw [e2 80 (by decide)], e3⟩ FrD.p)⟩
      · have z' : M2.1 1 2 = 0 := by rw [(pI_o 1 (by decide)).1, (pI_o 1 (by decide)).1] at z; exact z
        obtain ⟨-, u6⟩ := u5 z'
        refine ⟨⟨by rw [w 6 (by omega) (by omega) (by omega)]; exact p6, pt⟩, ⟨w7, by omega⟩, by rw [w 8 (by omega) (by omega) (by omega)]; exact p8, by rw [w 9 (by omega) (by omega) (by omega)]; exact p9, fun i hi => by rw [w i (by omega) (by omega) (by omega)]; exact ph i hi, ⟨sp, fun s x1 x2 => by rw [w (9 + s) (by omega) (by omega) (by omega)]; exact s1 s x1 x2, s2⟩, fun i hi => ?_⟩
        by_cases ei : i = n
        · subst ei
          exact op_mk hk wk (fun j hj => by rw [wj j hj]; exact u6 j hj)
        · exact (po i (by omega)).cg (fun s x1 x2 => w s (by omega) (by omega) (by omega))
      · refine ⟨⟨?_, ?_, ?_, ?_⟩, fun s hs => ?_, ⟨fun s x1 x2 => ?_, ?_⟩, fun i hi => ?_, fun i j hi hj => ?_, fun j j1 j2 => ?_⟩
        · rw [v3 5 (by decide), w 9 (by omega) (by omega) (by omega)]; exact d0.1
        · rw [v3 6 (by decide), w 6 (by omega) (by omega) (by omega)]; exact d0.2.1
        · rw [w7, pI_1, if_pos rfl, if_pos rfl]
        · rw [v3 8 (by decide), w 8 (by omega) (by omega) (by omega)]; exact d0.2.2.2
        · rw [vc 4 (by omega) (by omega), w s (by omega) (by omega) (by omega)]; exact dh s hs
        · rw [vc 5 (by omega) (by omega), w (9 + s) (by omega) (by omega) (by omega)]; exact ds s x1 x2
        · rw [vc 5 (by omega) (by omega)]; exact dz
        · rw [v6 i]
          by_cases ei : i = n
          · subst ei; rw [if_pos rfl, wk]
          · rw [if_neg ei, w (15 + 4 * i) (by omega) (by omega) (by omega)]; exact dk i (by omega)
        · rw [v7]
          by_cases ei : i = n
          · subst ei
            by_cases ej : j < lnK k
            · rw [wj j ej]; exact u4 j ej hj
            · rw [wm j (by omega) hj, u2 _ (by omega) (by omega), a5.1 7 (by decide)]; exact dm _ (by omega) (by omega)
          · rw [w (16 + 4 * i + j) (by omega) (by omega) (by omega), u2 _ (by omega) (by omega), a5.1 7 (by decide)]; exact dn i j (by omega) hj
        · rw [v7, u2 j j2 (by omega), a5.1 7 (by decide)]; exact dm j (by omega) j2
-- a line's end
theorem endE {l t n : Nat} (h : RS L M N) (hI : M.1 1 2 = 0 → LnI l t n M N) (hl : M.1 1 2 = 0 → l = t + n) : ∃ M' N', fX3_readLine_37 1 3 M = some M' ∧ fX10_readText_38 80 N = some N' ∧ RS L M' N' ∧ (M'.1 1 2 = 0 → LnI (l + 1) t n M' N' ∧ l + 1 = 1 + t + n) ∧ FrC M M' ∧ FrD N N' := by
  have t69 : ∀ N' : Mem, fX10_readText_69 80 N' = some (pI N' 86 9 (N'.1 86 9 + 1)) := fun N' => rfl
  have bad : ∀ M' N' : Mem, ¬ M'.1 1 2 = 0 → RS L M' N' → FrC M M' → FrD N N' → ∃ M2 N2, fX3_readLine_57 1 3 M' = some M2 ∧ fX10_readText_58 80 N' = some N2 ∧ RS L M2 N2 ∧ (M2.1 1 2 = 0 → LnI (l + 1) t n M2 N2 ∧ l + 1 = 1 + t + n) ∧ FrC M M2 ∧ FrD N N2 := by
    intro M' N' g hR f1 f2
    have g2 : ¬ N'.1 80 12 = 0 := by rw [← hR.2.1.1]; exact g
    unfold fX3_readLine_57 fX10_readText_58
    rw [if_neg g, goodF g2, bI_s, if_pos rfl, t69]
    exact ⟨M', _, rfl, rfl, hR.dr (fun _ _ => rfl) (fun c hc => (pI_o c hc).1), fun z => absurd z g, f1, f2.tr FrD.p⟩
  unfold fX3_readLine_37 fX10_readText_38
  by_cases h0 : M.1 1 2 = 0
  · have h1 : N.1 80 12 = 0 := by rw [← h.2.1.1]; exact h0
    obtain ⟨st, be, k1, k2, k3, k4, k5, k6, k7, k8⟩ := h.2.2 h0
    rw [if_pos h0, goodT h1, bI_s, if_neg (show ¬ (1 : Int32) = 0 by decide), k7]
    by_cases c : M.1 1 6 = 3
    · rw [if_pos c, if_pos c]
      unfold fX3_readLine_57 fX10_readText_58
      obtain ⟨⟨⟨p6, pt⟩, ⟨p7, pn⟩, p8, p9, ph, ⟨sp, s1, s2⟩, po⟩, ⟨d0, dh, ⟨ds, dz⟩, dk, dn, dm⟩⟩ := hI h0
      rw [if_pos h0, goodT h1, bI_s, if_neg (show ¬ (1 : Int32) = 0 by decide), d0.1, p9, nI_1]
      have r1 : RS L (pI M 3 5 (nI (l + 1))) N := h.dr (fun c hc => (pI_o c (by omega)).1) (fun _ _ => rfl)
      obtain ⟨M', N', a1, a2, a3, a4, a5, a6⟩ := advR r1 (by rw [(pI_o 1 (by decide)).1]; exact h0)
      rw [a1, bV_s, a2, bV_s, t69]
      have n86 : N'.1 86 = N.1 86 := a6.1 86 (by decide)
      have mc : ∀ c, ¬ c = 1 → M'.1 c = (pI M 3 5 (nI (l + 1))).1 c := fun c hc => a5.1 c hc
      have w : ∀ s, ¬ s = 9 → (pI N' 86 9 (N'.1 86 9 + 1)).1 86 s = N.1 86 s := fun s hs => by rw [pI_1, if_pos rfl, if_neg hs, n86]
      have w9 : (pI N' 86 9 (N'.1 86 9 + 1)).1 86 9 = nI (l + 1) := by rw [pI_1, if_pos rfl, if_pos rfl, n86, p9, nI_1]
      refine ⟨M', _, rfl, rfl, a3.dr (fun _ _ => rfl) (fun c hc => (pI_o c hc).1), fun z => ⟨⟨?_, ?_⟩, by have := hl h0; omega⟩, (FrC.p (by omega) (by omega)).tr a5.w.c, a6.w.d.tr FrD.p⟩
      · refine ⟨⟨by rw [w 6 (by omega)]; exact p6, pt⟩, ⟨by rw [w 7 (by omega)]; exact p7, pn⟩, by rw [w 8 (by omega)]; exact p8, w9, fun i hi => by rw [w i (by omega)]; exact ph i hi, ⟨sp, fun s x1 x2 => by rw [w (9 + s) (by omega)]; exact s1 s x1 x2, s2⟩, fun i hi => (po i hi).cg (fun s x1 x2 => w s (by omega))⟩
      · refine ⟨⟨?_, ?_, ?_, ?_⟩, fun s hs => ?_, ⟨fun s x1 x2 => ?_, ?_⟩, fun i hi => ?_, fun i j hi hj => ?_, fun j j1 j2 => ?_⟩
        · rw [w9, mc 3 (by decide), pI_1, if_pos rfl, if_pos rfl]
        · rw [w 6 (by omega), mc 3 (by decide), pI_1, if_pos rfl, if_neg (by decide)]; exact d0.2.1
        · rw [w 7 (by omega), mc 3 (by decide), pI_1, if_pos rfl, if_neg (by decide)]; exact d0.2.2.1
        · rw [w 8 (by omega), mc 3 (by decide), pI_1, if_pos rfl, if_neg (by decide)]; exact d0.2.2.2
        · rw [w s (by omega), mc 4 (by decide), (pI_o 4 (by decide)).1]; exact dh s hs
        · rw [w (9 + s) (by omega), mc 5 (by decide), (pI_o 5 (by decide)).1]; exact ds s x1 x2
        · rw [mc 5 (by decide), (pI_o 5 (by decide)).1]; exact dz
        · rw [w _ (by omega), mc 6 (by decide), (pI_o 6 (by decide)).1]; exact dk i hi
        · rw [w _ (by omega), mc 7 (by decide), (pI_o 7 (by decide)).1]; exact dn i j hi hj
        · rw [mc 7 (by decide), (pI_o 7 (by decide)).1]; exact dm j j1 j2
    · obtain ⟨M', N', a1, a2, a3, a4, a5, a6⟩ := failE (x := 1) h h0 (by decide)
      rw [if_neg c, if_neg c, a1, bV_s, a2, bV_s]
      exact bad M' N' a4 a3 a5.c a6.d
  · have h1 : ¬ N.1 80 12 = 0 := by rw [← h.2.1.1]; exact h0
    rw [if_neg h0, goodF h1, bI_s, if_pos rfl]
    exact bad M N h0 h FrC.rf FrD.rf
-- one line
def LnS (l : Nat) (M N : Mem) : Prop := (l = 0 ∧ Hs 0 M N ∧ N.1 86 9 = 0) ∨ (∃ t n, LnI l t n M N ∧ l = 1 + t + n)
theorem lineE {l : Nat} (h : RS L M N) (h0 : M.1 1 2 = 0) (hS : LnS l M N) : ∃ M' N', fX3_readLine 1 3 M = some M' ∧ fX10_readText 80 N = some N' ∧ RS L M' N' ∧ (M'.1 1 2 = 0 → ∃ t n, LnI (l + 1) t n M' N' ∧ l + 1 = 1 + t + n) ∧ FrC M M' ∧ FrD N N' := by
  unfold fX3_readLine fX10_readText
  rw [show ib (9 : Int32) 215 = true from rfl, ck_t, show tn (9 : Int32) = 9 from rfl]
  rcases hS with ⟨el, hH, h9⟩ | ⟨t, n, hI, hl⟩
  · obtain ⟨M1, N1, a1, a2, a3, a4, a5, a6⟩ := headE h hH
    subst el
    obtain ⟨M2, N2, b1, b2, b3, b4, b5, b6⟩ := endE (l := 0) (t := 0) (n := 0) a3 a4 (fun _ => rfl)
    rw [hH.2.1.1, if_pos rfl, show N.1 (80 + 6) 9 = 0 from h9, if_pos rfl, a1, bV_s, a2, bV_s, b1, b2]
    exact ⟨M2, N2, rfl, rfl, b3, fun z => ⟨0, 0, b4 z⟩, a5.tr b5, a6.tr b6⟩
  · have e9 : N.1 (80 + 6) 9 = nI l := hI.1.2.2.2.1
    have p5 := hI.1.1.2
    have p40 := hI.1.2.1.2
    have ne : ¬ nI l = (0 : Int32) := kE (n := 0) (by omega) (by omega) (by omega)
    obtain ⟨b, b1, b2⟩ := isE (j := 0) (j' := 43) (by decide) (by decide) h h0
    rw [hI.2.1.1, show N.1 86 9 = nI l from e9, if_neg ne, if_neg ne, b1, bI_s, b2, bI_s]
    have go : ∀ (M1 N1 : Mem), RS L M1 N1 → (M1.1 1 2 = 0 → ∃ t' n', LnI l t' n' M1 N1 ∧ l = t' + n') → FrC M M1 → FrD N N1 → ∃ M' N', fX3_readLine_37 1 3 M1 = some M' ∧ fX10_readText_38 80 N1 = some N' ∧ RS L M' N' ∧ (M'.1 1 2 = 0 → ∃ t n, LnI (l + 1) t n M' N' ∧ l + 1 = 1 + t + n) ∧ FrC M M' ∧ FrD N N' := by
      intro M1 N1 r1 i1 f1 g1
      by_cases z : M1.1 1 2 = 0
      · obtain ⟨t', n', j1, j2⟩ := i1 z
        obtain ⟨M2, N2, c1, c2, c3, c4, c5, c6⟩ := endE r1 (fun _ => j1) (fun _ => j2)
        exact ⟨M2, N2, c1, c2, c3, fun y => ⟨t', n', c4 y⟩, f1.tr c5, g1.tr c6⟩
      · obtain ⟨M2, N2, c1, c2, c3, c4, c5, c6⟩ := endE (l := l) (t := 0) (n := 0) r1 (fun y => absurd y z) (fun y => absurd y z)
        exact ⟨M2, N2, c1, c2, c3, fun y => ⟨0, 0, c4 y⟩, f1.tr c5, g1.tr c6⟩
    by_cases hb : b = true
    · obtain ⟨M1, N1, a1, a2, a3, a4, a5, a6⟩ := spanE h h0 hI hl
      rw [wif_t hb, wif_t hb, a1, bV_s, a2, bV_s]
      exact go M1 N1 a3 a4 a5 a6
    · obtain ⟨M1, N1, a1, a2, a3, a4, a5, a6⟩ := opE h h0 hI hl
      rw [wif_f hb, wif_f hb, a1, bV_s, a2, bV_s]
      exact go M1 N1 a3 a4 a5 a6
end Line
