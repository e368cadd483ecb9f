/-! Public methods: cheapest, spare. -/
section Cheap
variable {S : St} {M N : Mem} {W : Wd}
def CvR (S : St) (x : Nat) (N : Mem) : Prop := LyM (S.1 0) 80 N ∧ RcM (cfP (S.1 0) x) (pl (allS (S.1 0))) 80 (allS (S.1 0)).length N ∧ N.1 81 = S.1 0
def Cv (S : St) (x : Nat) (v : Int32) : Prop := ∃ M N N', JC S M ∧ CvR S x N ∧ fX10_costNow 80 N = some (v, N')
theorem Cv.run {x : Nat} {v : Int32} (h : Cv S x v) (hp : pgS (S.1 0) = true) (hx : x < 8) (hM : JC S M) : ∃ M', fX9_costBy 0 (nI x) M = some (v, M') ∧ JC S M' ∧ FrCl M M' := by
  obtain ⟨M0, N0, N0', j0, r0, e0⟩ := h
  obtain ⟨v1, M1, N1, a1, a2, a3, a4, a5, a6⟩ := costE hM hp hx r0.1 r0.2.1 r0.2.2
  have : some (v1, N1) = some (v, N0') := a2.symm.trans e0
  have hv : v1 = v := (Prod.mk.inj (Option.some.inj this)).1
  subst hv
  exact ⟨M1, a1, a3, a4⟩
theorem Cv.runM {x : Nat} {v : Int32} (h : Cv S x v) (hp : pgS (S.1 0) = true) (hx : x < 8) (hN : CvR S x N) : ∃ N', fX10_costNow 80 N = some (v, N') ∧ (∀ c, ¬ c = 112 → N'.1 c = N.1 c) ∧ N'.2 = N.2 := by
  have h' := h
  obtain ⟨M0, N0, N0', j0, r0, e0⟩ := h'
  obtain ⟨v1, M1, N1, a1, a2, a3, a4, a5, a6⟩ := costE j0 hp hx hN.1 hN.2.1 hN.2.2
  obtain ⟨M2, b1, -, -⟩ := h.run hp hx j0
  have : some (v1, M1) = some (v, M2) := a1.symm.trans b1
  have hv : v1 = v := (Prod.mk.inj (Option.some.inj this)).1
  subst hv
  exact ⟨N1, a2, a5, a6⟩
theorem playByK (hW : WOk W) (hp : pgS W = true) {x : Nat} (hx : x < 8) (hL : LyM W 80 N) (hK : Kx W N) (hz : GZ (vM 80 N)) : ∃ N', fX10_playBy 80 (nI x) N = some N' ∧ LyM W 80 N' ∧ RcM (cfP W x) (pl (allS W)) 80 (allS W).length N' ∧ GZ (vM 80 N') ∧ Kx W N' ∧ FrK 80 N N' := by
  have hH := hW.2.1 hp
  have hc := cfP_ok hH hx
  have fz : FrK 80 N (pI N 80 25 (nI x)) := ⟨fun c a _ => (pI_o c a).1, fun k a _ => by rw [pI_1, if_pos rfl, if_neg (by omega)], fun _ _ _ => rfl⟩
  obtain ⟨N', e2, l2, r2, z2, f2⟩ := playCf hW hc (N := pI N 80 25 (nI x)) (hL.mv (fun k a b => by rw [pI_1, if_pos rfl, if_neg (by omega)]) (fun c a b => (pI_o _ (by omega)).1)) (hK x) (vM_fr (fun c a b => (pI_o _ (by omega)).1) hz)
  refine ⟨N', ?_, l2, r2, z2, hK.mv ?_ ?_ ?_, fz.tr f2.k⟩
  · unfold fX10_playBy
    rw [show (pI N 80 25 (nI x)).1 80 23 = nI (allS W).length by rw [pI_1, if_pos rfl, if_neg (by decide)]; exact hL.2.2.2.2.1, e2, bV_s]
  · rw [f2.1 81 (by decide) (by decide), (pI_o 81 (by decide)).1]
  · rw [f2.1 92 (by decide) (by decide), (pI_o 92 (by decide)).1]
  · rw [f2.2.1 26 (by decide), pI_1, if_pos rfl, if_neg (by decide)]
def lo (f : Nat → Int32) : Int32 → Nat → Nat → Int32
  | a, 0, _ => a
  | a, m + 1, x => lo f (if f x < a then f x else a) m (x + 1)
theorem lo_sp (f : Nat → Int32) : ∀ (m x : Nat) (a : Int32), (lo f a m x).toInt ≤ a.toInt ∧ (∀ i, x ≤ i → i < x + m → (lo f a m x).toInt ≤ (f i).toInt) ∧ (lo f a m x = a ∨ ∃ i, x ≤ i ∧ i < x + m ∧ lo f a m x = f i) := by
  intro m
  induction m with
  | zero => intro x a; exact ⟨Int.le_refl _, fun i h1 h2 => by omega, Or.inl rfl⟩
  | succ m ih =>
    intro x a
    show (lo f (if f x < a then f x else a) m (x + 1)).toInt ≤ _ ∧ (∀ i, x ≤ i → i < x + (m + 1) → (lo f (if f x < a then f x else a) m (x + 1)).toInt ≤ (f i).toInt) ∧ (lo f (if f x < a then f x else a) m (x + 1) = a ∨ ∃ i, x ≤ i ∧ i < x + (m + 1) ∧ lo f (if f x < a then f x else a) m (x + 1) = f i)
    obtain ⟨h1, h2, h3⟩ := ih (x + 1) (if f x < a then f x else a)
    have hb : (if f x < a then f x else a).toInt ≤ a.toInt ∧ (if f x < a then f x else a).toInt ≤ (f x).toInt := by
      by_cases hc : f x < a
      · rw [if_pos hc]; rw [fa_lt] at hc; omega
      · rw [if_neg hc]; rw [fa_lt] at hc; omega
    refine ⟨by omega, fun i i1 i2 => ?_, ?_⟩
    · by_cases e : i = x
      · subst e; omega
      · exact h2 i (by omega) (by omega)
    · cases h3 with
      | inl e =>
        rw [e]
        by_cases hc : f x < a
        · right; exact ⟨x, by omega, by omega, if_pos hc⟩
        · left; exact if_neg hc
      | inr e =>
        obtain ⟨i, i1, i2, i3⟩ := e
        right; exact ⟨i, by omega, by omega, i3⟩
theorem lo_eq (f : Nat → Int32) {p : Nat} (hp : p < 8) : lo f (f p) 8 0 = lo f (f 0) 7 1 := by
  obtain ⟨a1, a2, a3⟩ := lo_sp f 8 0 (f p)
  obtain ⟨b1, b2, b3⟩ := lo_sp f 7 1 (f 0)
  have b2' : ∀ i, i < 8 → (lo f (f 0) 7 1).toInt ≤ (f i).toInt := fun i hi => by
    by_cases e : i = 0
    · subst e; exact b1
    · exact b2 i (by omega) (by omega)
  have a3' : ∃ i, i < 8 ∧ lo f (f p) 8 0 = f i := by
    cases a3 with
    | inl e => exact ⟨p, hp, e⟩
    | inr e => obtain ⟨i, i1, i2, i3⟩ := e; exact ⟨i, by omega, i3⟩
  have b3' : ∃ i, i < 8 ∧ lo f (f 0) 7 1 = f i := by
    cases b3 with
    | inl e => exact ⟨0, by omega, e⟩
    | inr e => obtain ⟨i, i1, i2, i3⟩ := e; exact ⟨i, by omega, i3⟩
  obtain ⟨i, i1, i2⟩ := a3'
  obtain ⟨j, j1, j2⟩ := b3'
  apply Int32.toInt_inj.mp
  have c1 := a2 j (by omega) (by omega)
  have c2 := b2' i i1
  rw [← j2] at c1
  rw [← i2] at c2
  omega
theorem l_chX {f : Nat → Int32} (hp : pgS (S.1 0) = true) (hf : ∀ x, x < 8 → Cv S x (f x)) : ∀ (m x g : Nat) (a : Int32) (M : Mem), x + m = 8 → m < g → JC S M → ∃ M', fX9_cheapest_18 g 0 a (nI x) M = some (lo f a m x, M') ∧ JC S M' ∧ FrCl M M' := by
  intro m
  induction m with
  | zero =>
    intro x g a M hm hg hM
    cases g with
    | zero => omega
    | succ g =>
      unfold fX9_cheapest_18
      rw [if_pos (show (8 : Int32) ≤ nI x from nI_le (a := 8) (by omega) (by omega))]
      exact ⟨M, rfl, hM, FrCl.rf⟩
  | succ m ih =>
    intro x g a M hm hg hM
    cases g with
    | zero => omega
    | succ g =>
      obtain ⟨M1, e1, j1, f1⟩ := (hf x (by omega)).run hp (by omega) hM
      unfold fX9_cheapest_18
      rw [if_neg (show ¬ (8 : Int32) ≤ nI x from nI_ge (b := 8) (by omega) (by omega)), e1, bI_s, nI_1]
      obtain ⟨M2, e2, j2, f2⟩ := ih (x + 1) g (if f x < a then f x else a) M1 (by omega) (by omega) j1
      exact ⟨M2, e2, j2, f1.tr f2⟩
theorem l_chM {f : Nat → Int32} (hW : WOk (S.1 0)) (hp : pgS (S.1 0) = true) (hf : ∀ x, x < 8 → Cv S x (f x)) : ∀ (m x g : Nat) (a : Int32) (N : Mem), x + m = 8 → m < g → LyM (S.1 0) 80 N → Kx (S.1 0) N → GZ (vM 80 N) → N.1 81 = S.1 0 → ∃ N', fX10_cheapest_17 g 80 a (nI x) N = some (lo f a m x, N') ∧ FrJ N N' ∧ GZ (vM 80 N') := by
  intro m
  induction m with
  | zero =>
    intro x g a N hm hg hL hK hz hw
    cases g with
    | zero => omega
    | succ g =>
      unfold fX10_cheapest_17
      rw [if_pos (show (8 : Int32) ≤ nI x from nI_le (a := 8) (by omega) (by omega))]
      exact ⟨N, rfl, FrJ.rf, hz⟩
  | succ m ih =>
    intro x g a N hm hg hL hK hz hw
    cases g with
    | zero => omega
    | succ g =>
      obtain ⟨N1, e1, l1, r1, z1, k1, f1⟩ := playByK hW hp (show x < 8 by omega) hL hK hz
      have w1 : N1.1 81 = S.1 0 := by rw [show N1.1 81 = N.1 81 from f1.w]; exact hw
      obtain ⟨N2, e2, c2, d2⟩ := (hf x (by omega)).runM hp (by omega) (N := N1) ⟨l1, r1, w1⟩
      unfold fX10_cheapest_17
      rw [if_neg (show ¬ (8 : Int32) ≤ nI x from nI_ge (b := 8) (by omega) (by omega)), e1, bV_s, e2, bI_s, nI_1]
      obtain ⟨N3, e3, f3, z3⟩ := ih (x + 1) g (if f x < a then f x else a) N2 (by omega) (by omega) (l1.mv (fun k _ _ => by rw [c2 80 (by decide)]) (fun c _ _ => c2 _ (by omega))) (k1.mv (c2 81 (by decide)) (c2 92 (by decide)) (by rw [c2 80 (by decide)])) (vM_fr (fun c _ _ => c2 _ (by omega)) z1) (by rw [c2 81 (by decide)]; exact w1)
      exact ⟨N3, e3, (f1.j.tr (FrJ.st c2 d2)).tr f3, z3⟩
theorem m_cheapest : Eq2 S (fX9_cheapest 0) (fX10_cheapest 80) := by
  intro M N hM hN
  unfold fX9_cheapest fX10_cheapest
  obtain ⟨N1, e1, a1, j1, f1⟩ := hN.asks
  rw [toldX hM, bI_s, e1, bI_s]
  by_cases hp : pgS (S.1 0) = true
  · have ak := a1 hp
    have hH := hM.w.2.1 hp
    have hK : Kx (S.1 0) N1 := fun x => byKM hH ak.2.1 x
    have hex : ∀ x, ∃ v, x < 8 → Cv S x v := by
      intro x
      by_cases hx : x < 8
      · obtain ⟨N2, b1, b2, b3, b4, b5, b6⟩ := playByK hM.w hp hx ak.1 hK j1.1.2.2
        have w2 : N2.1 81 = S.1 0 := by rw [show N2.1 81 = N1.1 81 from b6.w]; exact j1.1.2.1
        obtain ⟨v, M', N', c1, c2, c3, c4, c5, c6⟩ := costE hM hp hx b2 b3 w2
        exact ⟨v, fun _ => ⟨M, N2, N', hM, ⟨b2, b3, w2⟩, c2⟩⟩
      · exact ⟨0, fun h => absurd h hx⟩
    have hf : ∃ f : Nat → Int32, ∀ x, x < 8 → Cv S x (f x) := ⟨fun x => Classical.choose (hex x), fun x hx => Classical.choose_spec (hex x) hx⟩
    obtain ⟨f, hf⟩ := hf
    have h5 : cfW (S.1 0) 5 < 8 := hH.2.2.2.2.2.2.2.1
    obtain ⟨M1, x1, x2, x3⟩ := (hf 0 (by omega)).run hp (by omega) hM
    obtain ⟨M2, y1, y2, y3⟩ := l_chX hp hf 7 1 LF (f 0) M1 (by omega) (by unfold LF; omega) x2
    obtain ⟨N2, z1, z2, z3⟩ := (hf _ h5).runM hp h5 (N := N1) ⟨ak.1, by rw [cfP_self]; exact ak.2.2.2, j1.1.2.1⟩
    obtain ⟨N3, w1, w2, w3⟩ := l_chM hM.w hp hf 8 0 LF (f (cfW (S.1 0) 5)) N2 (by omega) (by unfold LF; omega) (ak.1.mv (fun k _ _ => by rw [z2 80 (by decide)]) (fun c _ _ => z2 _ (by omega))) (hK.mv (z2 81 (by decide)) (z2 92 (by decide)) (by rw [z2 80 (by decide)])) (vM_fr (fun c _ _ => z2 _ (by omega)) j1.1.2.2) (by rw [z2 81 (by decide)]; exact j1.1.2.1)
    rw [wif_t hp, wif_t hp, show fX9_costBy 0 0 M = _ from x1, bI_s, z1, bI_s, show fX9_cheapest_18 LF 0 (f 0) 1 M1 = _ from y1, show fX10_cheapest_17 LF 80 (f (cfW (S.1 0) 5)) 0 N2 = _ from w1, lo_eq f h5]
    exact ⟨_, M2, N3, S, rfl, rfl, y2, j1.j ((FrJ.st z2 z3).tr w2) w3, x3.tr y3, (f1.tr ((FrJ.st z2 z3).tr w2)).rfr⟩
  · rw [wif_f hp, wif_f hp]
    exact ⟨_, M, N1, S, rfl, rfl, hM, j1, FrCl.rf, f1.rfr⟩
theorem l_spare (hp : pgS (S.1 0) = true) : ∀ (m x f f' a : Nat) (w : Int32) (M N : Mem), x + m = nT (S.1 0) + 1 → 1 ≤ x → m < f → m < f' → a ≤ 5 → JC S M → LyM (S.1 0) 80 N → N.1 81 = S.1 0 → GZ (vM 80 N) → ∃ v M' N', fX9_spare_18 f 0 (nI a) w (nI x) M = some (v, M') ∧ fX10_spare_16 f' 80 (nI a) w (nI x) N = some (v, N') ∧ JC S M' ∧ FrCl M M' ∧ FrK 80 N N' ∧ GZ (vM 80 N') := by
  intro m
  induction m with
  | zero =>
    intro x f f' a w M N hm hx1 hf hf' ha hM hL hw hz
    have h5 := hM.w.1.1.2
    cases f with
    | zero => omega
    | succ f =>
    cases f' with
    | zero => omega
    | succ f' =>
      unfold fX9_spare_18 fX10_spare_16
      simp only [Nat.zero_add]
      rw [tabsM hw, bI_s, hM.1.2.1.1.2.1, hM.w.1.1.1, if_pos (nI_lt (by omega) (by omega)), if_pos (nI_lt (by omega) (by omega))]
      exact ⟨_, M, N, rfl, rfl, hM, FrCl.rf, FrK.rf, hz⟩
  | succ m ih =>
    intro x f f' a w M N hm hx1 hf hf' ha hM hL hw hz
    have h5 := hM.w.1.1.2
    cases f with
    | zero => omega
    | succ f =>
    cases f' with
    | zero => omega
    | succ f' =>
      obtain ⟨v, M1, M', N', e1, e2, e3, e4, e5, e6, e7, e8, e9⟩ := wrongOutM hM hp hx1 (by omega) hL hw hz
      have w' : N'.1 81 = S.1 0 := by rw [show N'.1 81 = N.1 81 from e7.w]; exact hw
      unfold fX9_spare_18 fX10_spare_16 fX9_spare_51 fX10_spare_45 fX10_spare_50
      simp only [Nat.zero_add]
      rw [tabsM hw, bI_s, hM.1.2.1.1.2.1, hM.w.1.1.1, if_neg (nI_nlt (by omega) (by omega)), if_neg (nI_nlt (by omega) (by omega)), e1, bV_s, e2, bI_s, e3, bI_s, nI_1, if_neg (show ¬ nI a = (-1 : Int32) from fun h => by
        have := congrArg Int32.toInt h
        rw [nI_toInt (by omega)] at this
        have h2 : (-1 : Int32).toInt = -1 := rfl
        omega)]
      by_cases g : w ≤ nI v
      · have g2 : ¬ nI v < w := by rw [fa_le] at g; rw [fa_lt]; omega
        rw [if_pos g, if_neg g2]
        obtain ⟨u, M2, N2, b1, b2, b3, b4, b5, b6⟩ := ih (x + 1) f f' a w M' N' (by omega) (by omega) (by omega) (by omega) ha e5 e9 w' e8
        exact ⟨u, M2, N2, b1, b2, b3, e6.tr b4, e7.tr b5, b6⟩
      · have g2 : nI v < w := by rw [fa_le] at g; rw [fa_lt]; omega
        rw [if_neg g, if_pos g2]
        obtain ⟨u, M2, N2, b1, b2, b3, b4, b5, b6⟩ := ih (x + 1) f f' x (nI v) M' N' (by omega) (by omega) (by omega) (by omega) (by omega) e5 e9 w' e8
        exact ⟨u, M2, N2, b1, b2, b3, e6.tr b4, e7.tr b5, b6⟩
theorem m_spare : Eq2 S (fX9_spare 0) (fX10_spare 80) := by
  intro M N hM hN
  unfold fX9_spare fX10_spare
  obtain ⟨N1, e1, l1, k1, f1, c1, o1, m1⟩ := laysM (o := 80) hN.w.1 rfl hN.1.2.1
  have z1 : GZ (vM 80 N1) := by rw [vM_mv c1 o1]; exact hN.1.2.2
  have j1 : JR S N1 := hN.j f1.j z1
  have h5 := hM.w.1.1.2
  rw [toldX hM, bI_s, e1, bI_s]
  by_cases hp : pgS (S.1 0) = true
  · rw [wif_t hp, wif_t hp, show fX9_spare_18 LF 0 (-1) 241 1 M = (if (M.1 (0 + 9) 6) < 1 then some (-1, M) else bV (fX9_setRivalWithout 0 1 M) fun M1 => bI (fX9_rivalWrongs 0 M1) fun r3 M2 => if (241 : Int32) ≤ r3 then fX9_spare_51 (fX9_spare_18 99999) 0 (-1) 241 1 M2 else fX9_spare_51 (fX9_spare_18 99999) 0 1 r3 1 M2) from rfl, show fX10_spare_16 LF 80 (-1) 0 1 N1 = (bI (fX10_tables 80 N1) fun r2 M1 => if r2 < 1 then some (-1, M1) else bI (fX10_wrongWithout 80 1 M1) fun r4 M3 => if (-1 : Int32) = -1 then fX10_spare_45 (fX10_spare_16 99999) 80 1 r4 M3 else if r4 < 0 then fX10_spare_45 (fX10_spare_16 99999) 80 1 r4 M3 else fX10_spare_50 (fX10_spare_16 99999) 80 (-1) 0 1 M3) from rfl, tabsM j1.1.2.1, bI_s]
    simp only [Nat.zero_add]
    rw [hM.1.2.1.1.2.1, hM.w.1.1.1]
    by_cases ht : nT (S.1 0) = 0
    · rw [ht, if_pos (by decide), if_pos (by decide)]
      exact ⟨_, M, N1, S, rfl, rfl, hM, j1, FrCl.rf, f1.j.rfr⟩
    · obtain ⟨v, M1, M', N', b1, b2, b3, b4, b5, b6, b7, b8, b9⟩ := wrongOutM hM hp (show 1 ≤ 1 by omega) (by omega) l1 j1.1.2.1 z1
      have w' : N'.1 81 = S.1 0 := by rw [show N'.1 81 = N1.1 81 from b7.w]; exact j1.1.2.1
      rw [if_neg (show ¬ nI (nT (S.1 0)) < (1 : Int32) from nI_nlt (b := 1) (by omega) (by omega)), if_neg (show ¬ nI (nT (S.1 0)) < (1 : Int32) from nI_nlt (b := 1) (by omega) (by omega)), show fX9_setRivalWithout 0 1 M = _ from b1, bV_s, b2, bI_s, show fX10_wrongWithout 80 1 N1 = _ from b3, bI_s, if_neg (show ¬ (241 : Int32) ≤ nI v from nI_ge (b := 241) (by omega) (by omega)), if_pos trivial]
      obtain ⟨u, M2, N2, d1, d2, d3, d4, d5, d6⟩ := l_spare hp (nT (S.1 0) - 1) 2 99999 99999 1 (nI v) M' N' (by omega) (by omega) (by omega) (by omega) (by omega) b5 b9 w' b8
      exact ⟨u, M2, N2, S, d1, d2, d3, j1.j (b7.j.tr d5.j) d6, b6.tr d4, (f1.j.tr (b7.j.tr d5.j)).rfr⟩
  · rw [wif_f hp, wif_f hp]
    exact ⟨_, M, N1, S, rfl, rfl, hM, j1, FrCl.rf, f1.j.rfr⟩
end Cheap
