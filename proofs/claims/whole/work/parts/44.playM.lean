/-! Replays: the GUESSER behind a row of BRANCHES; the reference's beginGuesser and play. -/
abbrev BL : Type := List (Nat × Int32)
def BOk (l : BL) : Prop := ∀ (b : Nat) (x : Nat × Int32), l[b]? = some x → x.1 < 64 ∧ (x.2 = 0 ∨ x.2 = 1)
def nxS (cf : Cfg) (s : GS × Nat) (x : Nat × Int32) : GS × Nat := (lnS cf s.1 s.2 x.1 x.2, paS s.2 x.2)
def gA (cf : Cfg) (l : BL) : GS × Nat := l.foldl (nxS cf) (g0S, 0)
theorem gA_s (cf : Cfg) {l : BL} {b : Nat} {x : Nat × Int32} (h : l[b]? = some x) : gA cf (l.take (b + 1)) = nxS cf (gA cf (l.take b)) x := by
  unfold gA
  rw [List.take_add_one, h, List.foldl_append]
  rfl
theorem gA_0 (cf : Cfg) (l : BL) : gA cf (l.take 0) = (g0S, 0) := rfl
theorem BOk.take {l : BL} (h : BOk l) (n : Nat) : BOk (l.take n) := by
  intro b x hx
  rw [List.getElem?_take] at hx
  split at hx
  · exact h b x hx
  · cases hx
theorem gA_ok {cf : Cfg} (hc : CfgOk cf) (l : BL) : GI (gA cf l).1 ∧ GZ (gA cf l).1 ∧ (gA cf l).2 < 2 ^ 40 := by
  unfold gA
  have : ∀ (l : BL) (s : GS × Nat), (GI s.1 ∧ GZ s.1 ∧ s.2 < 2 ^ 40) → (GI (l.foldl (nxS cf) s).1 ∧ GZ (l.foldl (nxS cf) s).1 ∧ (l.foldl (nxS cf) s).2 < 2 ^ 40) := by
    intro l
    induction l with
    | nil => intro s h; exact h
    | cons x l ih =>
      intro s h
      exact ih _ ⟨ln_i hc h.1, ln_z hc h.2.1, Nat.mod_lt _ (by omega)⟩
  exact this l _ ⟨g0_i, g0_z, by decide⟩
def FrM (o : Nat) (M M' : Mem) : Prop := (∀ c, ¬ c = o → ¬ (o + 13 ≤ c ∧ c ≤ o + 31) → M'.1 c = M.1 c) ∧ (∀ k, ¬ (37 ≤ k ∧ k ≤ 55) → M'.1 o k = M.1 o k) ∧ (∀ c k, ¬ (c = o ∧ k = 41) → M'.2 c k = M.2 c k)
theorem FrM.rf {o : Nat} {M : Mem} : FrM o M M := ⟨fun _ _ _ => rfl, fun _ _ => rfl, fun _ _ _ => rfl⟩
theorem FrM.tr {o : Nat} {A B C : Mem} (h : FrM o A B) (k : FrM o B C) : FrM o A C := ⟨fun c a b => (k.1 c a b).trans (h.1 c a b), fun j hj => (k.2.1 j hj).trans (h.2.1 j hj), fun c j hj => (k.2.2 c j hj).trans (h.2.2 c j hj)⟩
theorem QS.fr {o : Nat} {M M' : Mem} (h : QS o M M') : FrM o M M' := ⟨fun c a b => h.1 c a (by omega), fun k hk => h.2.1 k (by omega), fun c k _ => by rw [h.2.2]⟩
theorem ChM.fr {o : Nat} {M M' : Mem} (h : ChM o M M') : FrM o M M' := ⟨fun c a b => h.1 c a (by omega), fun k hk => h.2.1 k (by omega), fun c k _ => by rw [h.2.2]⟩
theorem FrM.c {o c k : Nat} {v : Int32} {M : Mem} (hc : 13 ≤ c ∧ c ≤ 31) : FrM o M (pI M (o + c) k v) := ⟨fun b b1 b2 => (pI_o b (by omega)).1, fun j _ => by rw [(pI_o o (by omega)).1], fun _ _ _ => rfl⟩
theorem KM.fr {cf : Cfg} {o : Nat} {M M' : Mem} (h : KM cf o M) (q : FrM o M M') : KM cf o M' := by
  obtain ⟨h0, h1, h2, h3, h4, h5, h6⟩ := h
  have e1 := q.1 (o + 1) (by omega) (by omega)
  exact ⟨by rw [e1]; exact h0, by rw [e1]; exact h1, by rw [e1]; exact h2, by rw [e1]; exact h3, by rw [q.2.1 26 (by omega)]; exact h4, by rw [q.2.1 25 (by omega)]; exact h5, fun t a b => by rw [q.1 (o + 12) (by omega) (by omega)]; exact h6 t a b⟩
-- beginGuesser
theorem w14 (o : Nat) (M : Mem) : ∀ x, 14 ≤ x → vM o M x = fun _ => 0 := by
  intro x hx
  unfold vM
  split <;> first | omega | rfl
section Begin
variable {o : Nat}
theorem gf_s (g : GS) (i n : Nat) (v : Int32) : gu (gf g i n v) i n v = gf g i (n + 1) v := by
  funext x k
  unfold gu gf
  by_cases h : x = i
  · subst h
    by_cases h2 : k = n
    · subst h2; simp
    · by_cases h3 : k < n
      · simp [h2, h3, show k < n + 1 by omega]
      · simp [h2, h3, show ¬ k < n + 1 by omega]
  · simp [h]
theorem gf_0 (g : GS) (i : Nat) (v : Int32) : gf g i 0 v = g := by
  funext x k
  simp [gf]
theorem gf_gu (g : GS) (i j n k : Nat) (v w : Int32) (h : ¬ i = j) : gu (gf g i n v) j k w = gf (gu g j k w) i n v := by
  funext x y
  simp only [gu, gf]
  by_cases h1 : x = j ∧ y = k
  · rw [if_pos h1, if_neg (fun z => h (by rw [← z.1, ← h1.1])), if_pos h1]
  · rw [if_neg h1, if_neg h1]
theorem b84 : ∀ (m i f : Nat) (M0 M1 : Mem), i + m = 48 → m < f → ChM o M0 M1 → vM o M1 = gf (vM o M0) 9 i 0 → ∃ M', fX10_beginGuesser_84 f o (nI i) M1 = some M' ∧ FrM o M0 M' ∧ vM o M' = gs (gs (gs (gs (gf (vM o M0) 9 48 0) 10 8) 11 0) 13 4) 12 0 ∧ M'.2 o 41 = lN 0 := by
  intro m
  induction m with
  | zero =>
    intro i f M0 M1 hi hf hC hv
    obtain ⟨f, rfl⟩ : ∃ z, f = z + 1 := ⟨f - 1, by omega⟩
    have : i = 48 := by omega
    subst this
    rw [fX10_beginGuesser_84, if_pos (by decide)]
    have hC2 := hC.tr ((((ChM.o (k := 37) (v := 8) (by omega)).tr (ChM.o (k := 38) (v := 0) (by omega))).tr (ChM.o (k := 39) (v := 4) (by omega))).tr (ChM.o (k := 40) (v := 0) (by omega)))
    refine ⟨_, rfl, hC2.fr.tr ⟨fun _ _ _ => rfl, fun _ _ => rfl, fun c k hck => ?_⟩, ?_, ?_⟩
    · rw [pL_2]
      by_cases e : c = o
      · rw [if_pos e, if_neg (fun z => hck ⟨e, z⟩)]
      · rw [if_neg e]
    · show vM o (pI (pI (pI (pI M1 o 37 8) o 38 0) o 39 4) o 40 0) = _
      rw [vm_12, vm_13, vm_11, vm_10, hv]
    · rw [pL_2]; simp; rfl
  | succ m ih =>
    intro i f M0 M1 hi hf hC hv
    obtain ⟨f, rfl⟩ : ∃ z, f = z + 1 := ⟨f - 1, by omega⟩
    rw [fX10_beginGuesser_84, if_neg (by rw [show (48 : Int32) = nI 48 from rfl]; exact nI_ge (by omega) (by omega)), ib_n (show i < 48 by omega) (by omega), ck_t, tn_n (by omega), nI_1]
    exact ih (i + 1) f M0 _ (by omega) (by omega) (hC.tr (ChM.c (by omega))) (by rw [vm_9, hv, gf_s])
theorem b58 : ∀ (m i f : Nat) (M0 M1 : Mem), i + m = 8 → m < f → ChM o M0 M1 → vM o M1 = gf (gf (gf (gf (gf (vM o M0) 4 i (-1)) 5 i (-1)) 6 i 0) 7 i 0) 8 i 0 → ∃ M' M2, fX10_beginGuesser_58 f o (nI i) M1 = some M' ∧ ChM o M0 M2 ∧ vM o M2 = gf (gf (gf (gf (gf (vM o M0) 4 8 (-1)) 5 8 (-1)) 6 8 0) 7 8 0) 8 8 0 ∧ FrM o M2 M' ∧ vM o M' = gs (gs (gs (gs (gf (vM o M2) 9 48 0) 10 8) 11 0) 13 4) 12 0 ∧ M'.2 o 41 = lN 0 := by
  intro m
  induction m with
  | zero =>
    intro i f M0 M1 hi hf hC hv
    obtain ⟨f, rfl⟩ : ∃ z, f = z + 1 := ⟨f - 1, by omega⟩
    have : i = 8 := by omega
    subst this
    rw [fX10_beginGuesser_58, if_pos (by decide), show (0 : Int32) = nI 0 from rfl]
    obtain ⟨M', e, f1, v1, p1⟩ := b84 (o := o) 48 0 LF M1 M1 (by omega) (by unfold LF; omega) ChM.rf (by rw [gf_0])
    exact ⟨M', M1, e, hC, hv, f1, v1, p1⟩
  | succ m ih =>
    intro i f M0 M1 hi hf hC hv
    obtain ⟨f, rfl⟩ : ∃ z, f = z + 1 := ⟨f - 1, by omega⟩
    rw [fX10_beginGuesser_58, if_neg (by rw [show (8 : Int32) = nI 8 from rfl]; exact nI_ge (by omega) (by omega))]
    obtain ⟨M2, e2, c2, v2⟩ := emptM (o := o) (M := M1) (i := i) (by omega)
    rw [e2, bV_s, ib_n (show i < 8 by omega) (by omega), ck_t, tn_n (by omega), nI_1]
    refine ih (i + 1) f M0 _ (by omega) (by omega) ((hC.tr c2).tr (ChM.c (by omega))) ?_
    rw [vm_8, v2, hv]
    rw [← gf_s _ 8, ← gf_s _ 7, ← gf_s _ 6, ← gf_s _ 5, ← gf_s _ 4]
    simp only [gf_gu _ 4 5 _ _ _ _ (by omega), gf_gu _ 4 6 _ _ _ _ (by omega), gf_gu _ 4 7 _ _ _ _ (by omega), gf_gu _ 4 8 _ _ _ _ (by omega), gf_gu _ 5 4 _ _ _ _ (by omega), gf_gu _ 5 6 _ _ _ _ (by omega), gf_gu _ 5 7 _ _ _ _ (by omega), gf_gu _ 5 8 _ _ _ _ (by omega), gf_gu _ 6 4 _ _ _ _ (by omega), gf_gu _ 6 5 _ _ _ _ (by omega), gf_gu _ 6 7 _ _ _ _ (by omega), gf_gu _ 6 8 _ _ _ _ (by omega), gf_gu _ 7 4 _ _ _ _ (by omega), gf_gu _ 7 5 _ _ _ _ (by omega), gf_gu _ 7 6 _ _ _ _ (by omega), gf_gu _ 7 8 _ _ _ _ (by omega), gf_gu _ 8 4 _ _ _ _ (by omega), gf_gu _ 8 5 _ _ _ _ (by omega), gf_gu _ 8 6 _ _ _ _ (by omega), gf_gu _ 8 7 _ _ _ _ (by omega)]
theorem b37 : ∀ (m i f : Nat) (M0 M1 : Mem), i + m = 16 → m < f → ChM o M0 M1 → vM o M1 = gf (vM o M0) 3 i 1 → ∃ M' M2, fX10_beginGuesser_37 f o (nI i) M1 = some M' ∧ ChM o M0 M2 ∧ vM o M2 = gf (gf (gf (gf (gf (gf (vM o M0) 3 16 1) 4 8 (-1)) 5 8 (-1)) 6 8 0) 7 8 0) 8 8 0 ∧ FrM o M2 M' ∧ vM o M' = gs (gs (gs (gs (gf (vM o M2) 9 48 0) 10 8) 11 0) 13 4) 12 0 ∧ M'.2 o 41 = lN 0 := by
  intro m
  induction m with
  | zero =>
    intro i f M0 M1 hi hf hC hv
    obtain ⟨f, rfl⟩ : ∃ z, f = z + 1 := ⟨f - 1, by omega⟩
    have : i = 16 := by omega
    subst this
    rw [fX10_beginGuesser_37, if_pos (by decide), show (0 : Int32) = nI 0 from rfl]
    obtain ⟨M', M2, e, c, v, f1, v1, p1⟩ := b58 (o := o) 8 0 LF M1 M1 (by omega) (by unfold LF; omega) ChM.rf (by simp only [gf_0])
    exact ⟨M', M2, e, hC.tr c, by rw [v, hv]; rfl, f1, v1, p1⟩
  | succ m ih =>
    intro i f M0 M1 hi hf hC hv
    obtain ⟨f, rfl⟩ : ∃ z, f = z + 1 := ⟨f - 1, by omega⟩
    rw [fX10_beginGuesser_37, if_neg (by rw [show (16 : Int32) = nI 16 from rfl]; exact nI_ge (by omega) (by omega)), ib_n (show i < 16 by omega) (by omega), ck_t, tn_n (by omega), nI_1]
    exact ih (i + 1) f M0 _ (by omega) (by omega) (hC.tr (ChM.c (by omega))) (by rw [vm_3, hv, gf_s])
theorem b2 : ∀ (m i f : Nat) (M0 M1 : Mem), i + m = 80 → m < f → ChM o M0 M1 → vM o M1 = gf (gf (gf (vM o M0) 0 i (-1)) 1 i 0) 2 i 0 → ∃ M' M2, fX10_beginGuesser_2 f o (nI i) M1 = some M' ∧ ChM o M0 M2 ∧ vM o M2 = gf (gf (gf (gf (gf (gf (gf (gf (gf (vM o M0) 0 80 (-1)) 1 80 0) 2 80 0) 3 16 1) 4 8 (-1)) 5 8 (-1)) 6 8 0) 7 8 0) 8 8 0 ∧ FrM o M2 M' ∧ vM o M' = gs (gs (gs (gs (gf (vM o M2) 9 48 0) 10 8) 11 0) 13 4) 12 0 ∧ M'.2 o 41 = lN 0 := by
  intro m
  induction m with
  | zero =>
    intro i f M0 M1 hi hf hC hv
    obtain ⟨f, rfl⟩ : ∃ z, f = z + 1 := ⟨f - 1, by omega⟩
    have : i = 80 := by omega
    subst this
    rw [fX10_beginGuesser_2, if_pos (by decide), show (0 : Int32) = nI 0 from rfl]
    obtain ⟨M', M2, e, c, v, f1, v1, p1⟩ := b37 (o := o) 16 0 LF M1 M1 (by omega) (by unfold LF; omega) ChM.rf (by simp only [gf_0])
    exact ⟨M', M2, e, hC.tr c, by rw [v, hv]; rfl, f1, v1, p1⟩
  | succ m ih =>
    intro i f M0 M1 hi hf hC hv
    obtain ⟨f, rfl⟩ : ∃ z, f = z + 1 := ⟨f - 1, by omega⟩
    rw [fX10_beginGuesser_2, if_neg (by rw [show (80 : Int32) = nI 80 from rfl]; exact nI_ge (by omega) (by omega)), ib_n (show i < 80 by omega) (by omega), tn_n (by omega), nI_1]
    simp only [ck_t]
    refine ih (i + 1) f M0 _ (by omega) (by omega) (hC.tr (((ChM.c (by omega)).tr (ChM.c (by omega))).tr (ChM.c (by omega)))) ?_
    rw [vm_2, vm_1, vm_0, hv]
    rw [← gf_s _ 2, ← gf_s _ 1, ← gf_s _ 0]
    simp only [gf_gu _ 0 1 _ _ _ _ (by omega), gf_gu _ 0 2 _ _ _ _ (by omega), gf_gu _ 1 0 _ _ _ _ (by omega), gf_gu _ 1 2 _ _ _ _ (by omega), gf_gu _ 2 0 _ _ _ _ (by omega), gf_gu _ 2 1 _ _ _ _ (by omega)]
theorem beg_eq {g : GS} (hz : GZ g) (h14 : ∀ x, 14 ≤ x → g x = fun _ => 0) : gs (gs (gs (gs (gf (gf (gf (gf (gf (gf (gf (gf (gf (gf g 0 80 (-1)) 1 80 0) 2 80 0) 3 16 1) 4 8 (-1)) 5 8 (-1)) 6 8 0) 7 8 0) 8 8 0) 9 48 0) 10 8) 11 0) 13 4) 12 0 = g0S := by
  funext x k
  have hz' := hz x k
  by_cases h : x < 14
  · have : x = 0 ∨ x = 1 ∨ x = 2 ∨ x = 3 ∨ x = 4 ∨ x = 5 ∨ x = 6 ∨ x = 7 ∨ x = 8 ∨ x = 9 ∨ x = 10 ∨ x = 11 ∨ x = 12 ∨ x = 13 := by omega
    unfold gs gf g0S
    rcases this with rfl | rfl | rfl | rfl | rfl | rfl | rfl | rfl | rfl | rfl | rfl | rfl | rfl | rfl <;> simp [szG] at hz' ⊢ <;> first | (intro hh; exact hz' hh) | (split <;> first | rfl | exact hz' (by omega))
  · unfold gs gf g0S
    simp [show ¬ x = 0 by omega, show ¬ x = 1 by omega, show ¬ x = 2 by omega, show ¬ x = 3 by omega, show ¬ x = 4 by omega, show ¬ x = 5 by omega, show ¬ x = 6 by omega, show ¬ x = 7 by omega, show ¬ x = 8 by omega, show ¬ x = 9 by omega, show ¬ x = 10 by omega, show ¬ x = 11 by omega, show ¬ x = 12 by omega, show ¬ x = 13 by omega, h14 x (by omega)]
theorem beginM {M : Mem} (hz : GZ (vM o M)) : ∃ M', fX10_beginGuesser o M = some M' ∧ FrM o M M' ∧ vM o M' = g0S ∧ M'.2 o 41 = lN 0 := by
  obtain ⟨M', M2, e, c, v, f1, v1, p1⟩ := b2 (o := o) 80 0 LF M M (by omega) (by unfold LF; omega) ChM.rf (by simp only [gf_0])
  unfold fX10_beginGuesser
  rw [show (0 : Int32) = nI 0 from rfl, e]
  exact ⟨M', rfl, c.fr.tr f1, by rw [v1, v, beg_eq hz (w14 o M)], p1⟩
end Begin
-- play
def fcS (cf : Cfg) (l : BL) (b k : Nat) : Int32 :=
  let s := gA cf (l.take b)
  let a := (l.getD b (0, 0)).1
  if k = 2 then anS cf s.1 s.2 a else if k = 3 then nI (pvS cf s.1 s.2 a) else if k = 4 then nI (atS cf s.1 s.2 a) else if k = 5 then wkI (wkS cf s.1 s.2 a) else if k = 6 then fsS cf s.1 s.2 a else whS cf s.1 s.2 a
def BrM (l : BL) (o : Nat) (M : Mem) : Prop := ∀ (b : Nat) (x : Nat × Int32), l[b]? = some x → M.1 (o + 9) b = nI x.1 ∧ M.1 (o + 10) b = x.2
def RcM (cf : Cfg) (l : BL) (o m : Nat) (M : Mem) : Prop := ∀ b, b < m → ∀ k, 2 ≤ k → k ≤ 7 → M.1 (o + 24 + k) b = fcS cf l b k
theorem playLoop {cf : Cfg} (hc : CfgOk cf) {l : BL} (hl : l.length ≤ 240) (hb : BOk l) {o m : Nat} (hm : m ≤ l.length) : ∀ (k b f : Nat) (M : Mem), b + k = m → k < f → GM cf (gA cf (l.take b)).1 (gA cf (l.take b)).2 o M → BrM l o M → RcM cf l o b M → ∃ M', fX10_play_6 f o (nI m) (nI b) M = some M' ∧ FrM o M M' ∧ GM cf (gA cf (l.take m)).1 (gA cf (l.take m)).2 o M' ∧ RcM cf l o m M' := by
  intro k
  induction k with
  | zero =>
    intro b f M hbk hf hG hB hR
    obtain ⟨f, rfl⟩ : ∃ z, f = z + 1 := ⟨f - 1, by omega⟩
    have : b = m := by omega
    subst this
    rw [fX10_play_6, if_pos (nI_le (Nat.le_refl _) (by omega))]
    exact ⟨M, rfl, FrM.rf, hG, hR⟩
  | succ k ih =>
    intro b f M hbk hf hG hB hR
    obtain ⟨f, rfl⟩ : ∃ z, f = z + 1 := ⟨f - 1, by omega⟩
    have hbl : b < l.length := by omega
    have hx : l[b]? = some l[b] := List.getElem?_eq_getElem hbl
    obtain ⟨xa, xt⟩ := hb b _ hx
    obtain ⟨ba, bt⟩ := hB b _ hx
    obtain ⟨gi, gz, gp⟩ := gA_ok hc (l.take b)
    rw [fX10_play_6, if_neg (nI_ge (by omega) (by omega)), ib_n (show b < 240 by omega) (by omega), ck_t, tn_n (by omega), ba]
    obtain ⟨M1, e1, q1, G1, A1⟩ := askM hc xa gi hG
    rw [e1, bV_s, ck_t, ck_t, ck_t]
    have ga : (l.getD b (0, 0)).1 = (l[b]).1 := by rw [List.getD_eq_getElem?_getD, hx]; rfl
    generalize hs : gA cf (l.take b) = s at *
    -- the memory with the six facts
    have hpo : ∀ (A : Mem) (c : Nat) (v : Int32), 26 ≤ c → (pI A (o + c) b v).1 o = A.1 o := fun A c v hc => (pI_o o (by omega)).1
    rw [hpo _ 26 _ (by omega), hpo _ 27 _ (by omega), hpo _ 26 _ (by omega), hpo _ 28 _ (by omega), hpo _ 27 _ (by omega), hpo _ 26 _ (by omega), A1.2.2.2.2.2.2.1, A1.1.2.2.1, A1.1.2.2.2.1, A1.1.2.2.2.2.2.2.1]
    have done : ∀ v, v = wkI (wkS cf s.1 s.2 (l[b]).1) → ∃ M', fX10_play_68 (fX10_play_6 f) o (nI m) (nI b) (o + 29) (nI b) v (pI (pI (pI M1 (o + 26) b (anS cf s.1 s.2 (l[b]).1)) (o + 27) b (nI (pvS cf s.1 s.2 (l[b]).1))) (o + 28) b (nI (atS cf s.1 s.2 (l[b]).1))) = some M' ∧ FrM o M M' ∧ GM cf (gA cf (l.take m)).1 (gA cf (l.take m)).2 o M' ∧ RcM cf l o m M' := by
      intro v hv
      unfold fX10_play_68
      rw [ib_n (show b < 240 by omega) (by omega), ck_t, ck_t, ck_t, ck_t, tn_n (by omega)]
      simp only [hpo _ 26 _ (by omega), hpo _ 27 _ (by omega), hpo _ 28 _ (by omega), hpo _ 29 _ (by omega), hpo _ 30 _ (by omega)]
      rw [A1.1.2.2.2.2.2.2.2, A1.2.2.2.2.2.2.2]
      generalize hM2 : pI (pI (pI (pI (pI (pI M1 (o + 26) b (anS cf s.1 s.2 (l[b]).1)) (o + 27) b (nI (pvS cf s.1 s.2 (l[b]).1))) (o + 28) b (nI (atS cf s.1 s.2 (l[b]).1))) (o + 29) b v) (o + 30) b (fsS cf s.1 s.2 (l[b]).1)) (o + 31) b (whS cf s.1 s.2 (l[b]).1) = M2
      have oo : ∀ c, ¬ (o + 26 ≤ c ∧ c ≤ o + 31) → M2.1 c = M1.1 c := fun c hc => by rw [← hM2, (pI_o c (by omega)).1, (pI_o c (by omega)).1, (pI_o c (by omega)).1, (pI_o c (by omega)).1, (pI_o c (by omega)).1, (pI_o c (by omega)).1]
      have o2 : M2.2 = M1.2 := by rw [← hM2]; rfl
      have rc : ∀ k, 2 ≤ k → k ≤ 7 → ∀ j, M2.1 (o + 24 + k) j = if j = b then fcS cf l b k else M1.1 (o + 24 + k) j := by
        intro k k1 k2 j
        have hk : k = 2 ∨ k = 3 ∨ k = 4 ∨ k = 5 ∨ k = 6 ∨ k = 7 := by omega
        rw [← hM2]
        simp only [pI_1, fcS, hs, ga]
        rcases hk with rfl | rfl | rfl | rfl | rfl | rfl <;> simp [Nat.add_assoc, hv]
      have fr12 : FrM o M1 M2 := ⟨fun c a b => oo c (by omega), fun k hk => by rw [oo o (by omega)], fun c k _ => by rw [o2]⟩
      have G2 : GM cf s.1 s.2 o M2 := ⟨G1.1.fr fr12, by
        rw [← G1.2.1]
        funext i
        unfold vM
        split
        all_goals first | exact oo _ (by omega) | (funext _; rw [oo o (by omega)]) | rfl, by rw [o2]; exact G1.2.2.1, G1.2.2.2⟩
      have A2 : AM cf s.1 s.2 (l[b]).1 o M2 := by
        obtain ⟨hT, a1, a2, a3, a4, a5, a6, a7⟩ := A1
        have w25 := oo (o + 25) (by omega)
        have wo := oo o (by omega)
        exact ⟨hT.mv (oo _ (by omega)) (oo _ (by omega)) (fun k _ _ => by rw [wo]), by rw [w25]; exact a1, by rw [w25]; exact a2, by rw [w25]; exact a3, by rw [wo]; exact a4, by rw [wo]; exact a5, by rw [wo]; exact a6, by rw [wo]; exact a7⟩
      have bt2 : M2.1 (o + 10) b = (l[b]).2 := by rw [oo (o + 10) (by omega), q1.1 (o + 10) (by omega) (by omega)]; exact bt
      rw [bt2]
      obtain ⟨M3, e3, G3, f3, f4, f5⟩ := learnM hc xa xt gi G2 A2
      rw [e3, bV_s, nI_1]
      have fr23 : FrM o M2 M3 := ⟨fun c a b => f3 c a (by omega), fun k hk => f4 k (by omega), f5⟩
      have fr : FrM o M M3 := q1.fr.tr (fr12.tr fr23)
      have egA : gA cf (l.take (b + 1)) = (lnS cf s.1 s.2 (l[b]).1 (l[b]).2, paS s.2 (l[b]).2) := by rw [gA_s cf hx, hs]; rfl
      obtain ⟨M', e, fr', G', R'⟩ := ih (b + 1) f M3 (by omega) (by omega) (by rw [egA]; exact G3) (fun c x hcx => by rw [fr.1 (o + 9) (by omega) (by omega), fr.1 (o + 10) (by omega) (by omega)]; exact hB c x hcx) (fun c hcb k k1 k2 => by
        rw [f3 (o + 24 + k) (by omega) (by omega), rc k k1 k2 c]
        by_cases e : c = b
        · rw [if_pos e, e]
        · rw [if_neg e, q1.1 (o + 24 + k) (by omega) (by omega)]
          exact hR c (by omega) k k1 k2)
      exact ⟨M', e, fr.tr fr', G', R'⟩
    by_cases hw : wkS cf s.1 s.2 (l[b]).1 = true
    · rw [if_neg (by rw [wkI_0, hw]; simp)]
      exact done 1 (by rw [hw]; rfl)
    · have hw' : wkS cf s.1 s.2 (l[b]).1 = false := by simpa using hw
      rw [if_pos (by rw [wkI_0]; exact hw')]
      exact done 0 (by rw [hw']; rfl)
theorem playM {cf : Cfg} (hc : CfgOk cf) {l : BL} (hl : l.length ≤ 240) (hb : BOk l) {o m : Nat} (hm : m ≤ l.length) {M : Mem} (hK : KM cf o M) (hz : GZ (vM o M)) (hB : BrM l o M) : ∃ M', fX10_play o (nI m) M = some M' ∧ FrM o M M' ∧ GM cf (gA cf (l.take m)).1 (gA cf (l.take m)).2 o M' ∧ RcM cf l o m M' := by
  obtain ⟨M1, e1, f1, v1, p1⟩ := beginM (o := o) hz
  unfold fX10_play
  rw [e1, bV_s, show (0 : Int32) = nI 0 from rfl]
  obtain ⟨M', e, fr, G, R⟩ := playLoop hc hl hb hm m 0 LF M1 (by omega) (by unfold LF; omega) ⟨hK.fr f1, by rw [v1]; rfl, by rw [p1]; rfl, (show (0 : Nat) < 2 ^ 40 by decide)⟩ (fun b x hx => by rw [f1.1 (o + 9) (by omega) (by omega), f1.1 (o + 10) (by omega) (by omega)]; exact hB b x hx) (fun b hb => by omega)
  exact ⟨M', e, f1.tr fr, G, R⟩
