/-! What the GUESSER's state keeps. -/
def GT (g : GS) : Prop := ∀ k, k < 80 → 0 ≤ (g 2 k).toInt ∧ (g 2 k).toInt ≤ 3 ∧ (g 0 k = -1 → g 2 k = 0)
def GL (g : GS) : Prop := ∀ k, k < 8 → (g 7 k).toInt ≤ 3 ∧ (g 6 k).toInt < 60 ∧ 0 ≤ (g 6 k).toInt
theorem GI_iff (g : GS) : GI g ↔ GT g ∧ GL g := Iff.rfl
theorem GT.cg {g g' : GS} (h : GT g) (h0 : g' 0 = g 0) (h2 : g' 2 = g 2) : GT g' := fun k hk => by rw [h0, h2]; exact h k hk
theorem GL.cg {g g' : GS} (h : GL g) (h6 : g' 6 = g 6) (h7 : g' 7 = g 7) : GL g' := fun k hk => by rw [h6, h7]; exact h k hk
theorem bd_rng (x lo hi : Int32) (h : lo.toInt ≤ hi.toInt) : lo.toInt ≤ (bd x lo hi).toInt ∧ (bd x lo hi).toInt ≤ hi.toInt := by
  unfold bd
  by_cases h1 : x < hi
  · rw [if_pos h1]
    rw [fa_lt] at h1
    by_cases h2 : lo < x
    · rw [if_pos h2]; rw [fa_lt] at h2; omega
    · rw [if_neg h2]; omega
  · rw [if_neg h1]
    by_cases h2 : lo < hi
    · rw [if_pos h2]; rw [fa_lt] at h2; omega
    · rw [if_neg h2]; omega
theorem i_0 : (0 : Int32).toInt = 0 := by decide
theorem i_1 : (1 : Int32).toInt = 1 := by decide
theorem i_3 : (3 : Int32).toInt = 3 := by decide
theorem i_60 : (60 : Int32).toInt = 60 := by decide
theorem add1 {x : Int32} (h0 : 0 ≤ x.toInt) (h : x.toInt < 60) : (x + 1).toInt = x.toInt + 1 := by
  obtain ⟨j, hj, rfl⟩ := of_rng (n := 59) h0 (by omega) (by omega)
  rw [nI_1, nI_toInt (by omega), nI_toInt (by omega)]; omega
theorem gi_l {g : GS} {i : Nat} {x y : Int32} (h : GL g) : GL (giS g i x y) := by
  intro k hk
  obtain ⟨h1, h2, h3⟩ := h k hk
  by_cases e : k = i
  · subst e
    have a : giS g k x y 7 k = 0 := by simp [giS, gu]
    have b : giS g k x y 6 k = 0 := by simp [giS, gu]
    rw [a, b, i_0]; omega
  · have a : giS g i x y 7 k = g 7 k := by simp [giS, gu, e]
    have b : giS g i x y 6 k = g 6 k := by simp [giS, gu, e]
    rw [a, b]; exact ⟨h1, h2, h3⟩
theorem go1_l {g : GS} {i : Nat} (hi : i < 8) (h : ∀ k, k < 8 → (g 7 k).toInt ≤ 3 ∧ (k ≠ i → (g 6 k).toInt < 60) ∧ 0 ≤ (g 6 k).toInt) (h60 : (g 6 i).toInt ≤ 60) : GL (goS1 g i) := by
  unfold goS1
  split
  · rename_i e
    intro k hk
    obtain ⟨h1, h2, h3⟩ := h k hk
    by_cases e : k = i
    · subst e
      have a : giS g k (-1) 0 7 k = 0 := by simp [giS, gu]
      have b : giS g k (-1) 0 6 k = 0 := by simp [giS, gu]
      rw [a, b, i_0]; omega
    · have a : giS g i (-1) 0 7 k = g 7 k := by simp [giS, gu, e]
      have b : giS g i (-1) 0 6 k = g 6 k := by simp [giS, gu, e]
      rw [a, b]; exact ⟨h1, h2 e, h3⟩
  · rename_i ne
    intro k hk
    obtain ⟨h1, h2, h3⟩ := h k hk
    refine ⟨h1, ?_, h3⟩
    by_cases e : k = i
    · subst e
      have : (g 6 k).toInt ≠ 60 := fun z => ne (Int32.toInt_inj.mp (by rw [z, i_60]))
      omega
    · exact h2 e
theorem lp_l {g : GS} {a : Nat} {t : Int32} {b : Bool} (h : GL g) : GL (lpS g a t b) := by
  have hi : a % 8 < 8 := by omega
  obtain ⟨i1, i2, i3⟩ := h _ hi
  have i4 := add1 i3 i2
  unfold lpS
  generalize a % 8 = i at *
  split
  · split
    · unfold goS
      have base : ∀ k, k < 8 → (gu g 6 i (g 6 i + 1) 7 k).toInt ≤ 3 ∧ (k ≠ i → (gu g 6 i (g 6 i + 1) 6 k).toInt < 60) ∧ 0 ≤ (gu g 6 i (g 6 i + 1) 6 k).toInt := by
        intro k hk
        obtain ⟨h1, h2, h3⟩ := h k hk
        have a7 : gu g 6 i (g 6 i + 1) 7 k = g 7 k := by simp [gu]
        rw [a7]
        by_cases e : k = i
        · subst e
          have a6 : gu g 6 k (g 6 k + 1) 6 k = g 6 k + 1 := by simp [gu]
          rw [a6, i4]; exact ⟨h1, fun z => absurd rfl z, by omega⟩
        · have a6 : gu g 6 i (g 6 i + 1) 6 k = g 6 k := by simp [gu, e]
          rw [a6]; exact ⟨h1, fun _ => h2, h3⟩
      have e6 : gu g 6 i (g 6 i + 1) 6 i = g 6 i + 1 := by simp [gu]
      split
      · exact go1_l hi base (by rw [e6, i4]; omega)
      · split
        · exact go1_l hi base (by rw [e6, i4]; omega)
        · refine go1_l hi (fun k hk => ?_) ?_
          · obtain ⟨h1, h2, h3⟩ := base k hk
            have b6 : gu (gu (gu g 6 i (g 6 i + 1)) 5 i (-1)) 7 i 0 6 k = gu g 6 i (g 6 i + 1) 6 k := by simp [gu]
            rw [b6]
            refine ⟨?_, h2, h3⟩
            by_cases e : k = i
            · subst e
              have b7 : gu (gu (gu g 6 k (g 6 k + 1)) 5 k (-1)) 7 k 0 7 k = 0 := by simp [gu]
              rw [b7, i_0]; omega
            · have b7 : gu (gu (gu g 6 i (g 6 i + 1)) 5 i (-1)) 7 i 0 7 k = gu g 6 i (g 6 i + 1) 7 k := by simp [gu, e]
              rw [b7]; exact h1
          · have b6 : gu (gu (gu g 6 i (g 6 i + 1)) 5 i (-1)) 7 i 0 6 i = g 6 i + 1 := by simp [gu]
            rw [b6, i4]; omega
    · unfold leS
      have mn : (if g 7 i + 1 < 3 then g 7 i + 1 else (3 : Int32)).toInt ≤ 3 := by
        split
        · rename_i hh; rw [fa_lt, i_3] at hh; omega
        · rw [i_3]; omega
      split
      · intro k hk
        obtain ⟨h1, h2, h3⟩ := h k hk
        by_cases e : k = i
        · subst e
          have b7 : gu (gu g 7 k (if g 7 k + 1 < 3 then g 7 k + 1 else 3)) 6 k 0 7 k = (if g 7 k + 1 < 3 then g 7 k + 1 else 3) := by simp [gu]
          have b6 : gu (gu g 7 k (if g 7 k + 1 < 3 then g 7 k + 1 else 3)) 6 k 0 6 k = 0 := by simp [gu]
          rw [b7, b6, i_0]; exact ⟨mn, by omega, by omega⟩
        · have b7 : gu (gu g 7 i (if g 7 i + 1 < 3 then g 7 i + 1 else 3)) 6 i 0 7 k = g 7 k := by simp [gu, e]
          have b6 : gu (gu g 7 i (if g 7 i + 1 < 3 then g 7 i + 1 else 3)) 6 i 0 6 k = g 6 k := by simp [gu, e]
          rw [b7, b6]; exact ⟨h1, h2, h3⟩
      · intro k hk
        obtain ⟨h1, h2, h3⟩ := h k hk
        by_cases e : k = i
        · subst e
          have b7 : gu (gu (gu g 5 k (g 6 k)) 7 k 0) 6 k 0 7 k = 0 := by simp [gu]
          have b6 : gu (gu (gu g 5 k (g 6 k)) 7 k 0) 6 k 0 6 k = 0 := by simp [gu]
          rw [b7, b6, i_0]; omega
        · have b7 : gu (gu (gu g 5 i (g 6 i)) 7 i 0) 6 i 0 7 k = g 7 k := by simp [gu, e]
          have b6 : gu (gu (gu g 5 i (g 6 i)) 7 i 0) 6 i 0 6 k = g 6 k := by simp [gu, e]
          rw [b7, b6]; exact ⟨h1, h2, h3⟩
  · split
    · split
      · exact gi_l h
      · exact h.cg (gu_row _ _ _ _ (by omega)) (gu_row _ _ _ _ (by omega))
    · exact h
theorem mv_row (cf : Cfg) (g : GS) (p a tb : Nat) (t : Int32) {i : Nat} (h1 : ¬ i = 1) (h3 : ¬ i = 3) : mvS cf g p a tb t i = g i := by
  unfold mvS
  split
  · exact gu_row _ _ _ _ h3
  · exact gu_row _ _ _ _ h1
theorem pl_ne {cf : Cfg} (hc : CfgOk cf) {p a t u : Nat} (h1 : 1 ≤ t) (h2 : 1 ≤ u) (h : ¬ t = u) : ¬ plS cf p a t = plS cf p a u := by
  have := ix_lt hc p a t
  have := ix_lt hc p a u
  unfold plS
  omega
theorem t1_row (cf : Cfg) (g0 g : GS) (p a : Nat) (t : Int32) {i : Nat} (h : ¬ i = 10) : t1S cf g0 g p a t i = g i := by
  unfold t1S
  split
  · exact gs_row _ _ _ h
  · rfl
theorem t2_row (cf : Cfg) (g0 g : GS) (p a : Nat) (t : Int32) {i : Nat} (h : ¬ i = 2) : t2S cf g0 g p a t i = g i := by
  unfold t2S
  split
  · exact gu_row _ _ _ _ h
  · rfl
theorem t34_row (cf : Cfg) (g0 g : GS) (p a : Nat) (t : Int32) {i : Nat} (h1 : ¬ i = 1) (h3 : ¬ i = 3) : t4S cf g0 (t3S cf g0 g p a t) p a t i = g i := by
  unfold t4S t3S
  split
  · rw [mv_row _ _ _ _ _ _ h1 h3, mv_row _ _ _ _ _ _ h1 h3]
  · rw [mv_row _ _ _ _ _ _ h1 h3]
theorem t2_t {cf : Cfg} (hc : CfgOk cf) {g0 g : GS} {p a : Nat} {t : Int32} (h : GT g) (e0 : g 0 = g0 0) : GT (t2S cf g0 g p a t) := by
  unfold t2S
  split
  · rename_i hh
    simp only [Bool.and_eq_true, decide_eq_true_eq] at hh
    have hm := pr_mt cf g0 p a (cf 3) hh.1
    have hm2 : g0 0 (plS cf p a (pvS cf g0 p a)) = nI (tgS cf p a (pvS cf g0 p a)) := by
      simp only [mtS, Bool.and_eq_true, decide_eq_true_eq] at hm
      exact hm.2
    intro k hk
    obtain ⟨h1, h2, h3⟩ := h k hk
    have b0 : gu g 2 (plS cf p a (pvS cf g0 p a)) (bd (g 2 (plS cf p a (pvS cf g0 p a)) + (if syS cf g0 p a (pvS cf g0 p a) = t then 1 else -1)) 0 3) 0 k = g 0 k := by simp [gu]
    rw [b0]
    by_cases e : k = plS cf p a (pvS cf g0 p a)
    · have b2 : gu g 2 (plS cf p a (pvS cf g0 p a)) (bd (g 2 (plS cf p a (pvS cf g0 p a)) + (if syS cf g0 p a (pvS cf g0 p a) = t then 1 else -1)) 0 3) 2 k = bd (g 2 (plS cf p a (pvS cf g0 p a)) + (if syS cf g0 p a (pvS cf g0 p a) = t then 1 else -1)) 0 3 := by simp [gu, e]
      rw [b2]
      have hr := bd_rng (g 2 (plS cf p a (pvS cf g0 p a)) + (if syS cf g0 p a (pvS cf g0 p a) = t then 1 else -1)) 0 3 (by decide)
      rw [i_0, i_3] at hr
      exact ⟨hr.1, hr.2, fun z => by rw [e, e0, hm2] at z; exact absurd z (tg_neg hc _ _ _)⟩
    · have b2 : gu g 2 (plS cf p a (pvS cf g0 p a)) (bd (g 2 (plS cf p a (pvS cf g0 p a)) + (if syS cf g0 p a (pvS cf g0 p a) = t then 1 else -1)) 0 3) 2 k = g 2 k := by simp [gu, e]
      rw [b2]; exact ⟨h1, h2, h3⟩
  · exact h
theorem dc_row (cf : Cfg) (p a : Nat) {i : Nat} (h : ¬ i = 2) : ∀ (m k : Nat) (g : GS), dcS cf p a g k m i = g i := by
  intro m
  induction m with
  | zero => intro k g; rfl
  | succ m ih =>
    intro k g
    rw [dcS]
    split
    · exact ih _ _
    · rw [ih]; exact gu_row _ _ _ _ h
theorem dec1 {x : Int32} (h0 : 0 ≤ x.toInt) (h3 : x.toInt ≤ 3) (hn : ¬ x = 0) : 0 ≤ (x - 1).toInt ∧ (x - 1).toInt ≤ 3 := by
  obtain ⟨j, hj, rfl⟩ := of_rng (n := 3) h0 (by omega) (by omega)
  have : ¬ j = 0 := fun z => hn (by rw [z]; rfl)
  rw [nI_m1 (by omega), nI_toInt (by omega)]; omega
theorem fr_none {cf : Cfg} {g : GS} {p a : Nat} : ∀ (m k : Nat), 1 ≤ k → frS cf g p a k m = 0 → ∀ u, k ≤ u → u < k + m → ¬ u = cf 4 → ¬ g 2 (plS cf p a u) = 0 := by
  intro m
  induction m with
  | zero => intro k _ _ u h1 h2; omega
  | succ m ih =>
    intro k h1 h u hu hu2 hne
    rw [frS] at h
    by_cases e : k = cf 4
    · rw [if_pos e] at h
      have : ¬ u = k := fun z => hne (by omega)
      exact ih (k + 1) (by omega) h u (by omega) (by omega) hne
    · rw [if_neg e] at h
      by_cases e2 : g 2 (plS cf p a k) = 0
      · rw [if_pos e2] at h; omega
      · rw [if_neg e2] at h
        by_cases e3 : u = k
        · subst e3; exact e2
        · exact ih (k + 1) (by omega) h u (by omega) (by omega) hne
theorem dc_t {cf : Cfg} (hc : CfgOk cf) {p a : Nat} : ∀ (m k : Nat) (g : GS), 1 ≤ k → k + m = cf 3 + 1 → GT g → (∀ u, k ≤ u → u < k + m → ¬ u = cf 4 → ¬ g 2 (plS cf p a u) = 0) → GT (dcS cf p a g k m) := by
  intro m
  induction m with
  | zero => intro k g _ _ h _; exact h
  | succ m ih =>
    intro k g h1 hk h hu
    rw [dcS]
    split
    · exact ih (k + 1) g (by omega) (by omega) h (fun u a b c => hu u (by omega) (by omega) c)
    · rename_i hne
      have hpl := pl_lt hc p a h1 (show k ≤ cf 3 by omega)
      have hz := hu k (by omega) (by omega) hne
      refine ih (k + 1) _ (by omega) (by omega) (fun j hj => ?_) (fun u u1 u2 u3 => ?_)
      · obtain ⟨g1, g2, g3⟩ := h j hj
        have b0 : gu g 2 (plS cf p a k) (g 2 (plS cf p a k) - 1) 0 j = g 0 j := by simp [gu]
        rw [b0]
        by_cases e : j = plS cf p a k
        · subst e
          have b2 : gu g 2 (plS cf p a k) (g 2 (plS cf p a k) - 1) 2 (plS cf p a k) = g 2 (plS cf p a k) - 1 := by simp [gu]
          rw [b2]
          have d := dec1 g1 g2 hz
          exact ⟨d.1, d.2, fun z => absurd (g3 z) hz⟩
        · have b2 : gu g 2 (plS cf p a k) (g 2 (plS cf p a k) - 1) 2 j = g 2 j := by simp [gu, e]
          rw [b2]; exact ⟨g1, g2, g3⟩
      · have b2 : gu g 2 (plS cf p a k) (g 2 (plS cf p a k) - 1) 2 (plS cf p a u) = g 2 (plS cf p a u) := by simp [gu, pl_ne hc (p := p) (a := a) (show 1 ≤ u by omega) h1 (show ¬ u = k by omega)]
        rw [b2]; exact hu u (by omega) (by omega) u3
theorem st_t {cf : Cfg} {g : GS} (h : GT g) : GT (stS cf g) := by
  unfold stS
  split
  · intro k hk
    obtain ⟨h1, h2, h3⟩ := h k hk
    obtain ⟨j, hj, e⟩ := of_rng (n := 3) h1 (by omega) (by omega)
    have b0 : haS (gs g 11 (g 11 0 + 1)) 0 k = g 0 k := by simp [haS, gs]
    have b2 : haS (gs g 11 (g 11 0 + 1)) 2 k = g 2 k / 2 := by simp [haS, gs, hk]
    rw [b0, b2, e, show nI j / 2 = nI (j / 2) from pk_div (d := 2) (by omega) (by omega) (by omega), nI_toInt (by omega)]
    refine ⟨by omega, by omega, fun z => ?_⟩
    have := h3 z
    rw [e] at this
    have hj0 : j = 0 := (nI_eq (a := j) (b := 0) (by omega) (by omega)).mp this
    rw [hj0]; rfl
  · exact h.cg (gs_row _ _ _ (by omega)) (gs_row _ _ _ (by omega))
theorem ha_row (g : GS) {i : Nat} (h2 : ¬ i = 2) (h11 : ¬ i = 11) (h12 : ¬ i = 12) : haS g i = g i := by
  funext k
  simp [haS, gs, h2, h11, h12]
theorem st_row (cf : Cfg) (g : GS) {i : Nat} (h2 : ¬ i = 2) (h11 : ¬ i = 11) (h12 : ¬ i = 12) : stS cf g i = g i := by
  unfold stS
  split
  · rw [ha_row _ h2 h11 h12, gs_row _ _ _ h11]
  · rw [gs_row _ _ _ h11]
theorem tk_i {cf : Cfg} (hc : CfgOk cf) {g : GS} {p a pv : Nat} {t : Int32} (h : GT g) (hl : GL g) (hp : pv ≤ cf 3) : GT (tkS cf g p a pv t) ∧ GL (tkS cf g p a pv t) := by
  simp only [tkS]
  split
  · rename_i hf
    split
    · refine ⟨st_t (dc_t hc _ _ _ (by omega) (by omega) h (fr_none _ _ (by omega) hf)), hl.cg ?_ ?_⟩
      · rw [st_row _ _ (by omega) (by omega) (by omega), dc_row _ _ _ (by omega)]
      · rw [st_row _ _ (by omega) (by omega) (by omega), dc_row _ _ _ (by omega)]
    · exact ⟨h, hl⟩
  · rename_i hf
    have hfr := (fr_le (cf := cf) (g := g) (p := p) (a := a) (cf 3 - pv) (pv + 1) (by omega)).2 hf
    refine ⟨fun k hk => ?_, hl.cg (by rw [gu_row _ _ _ _ (by omega), gu_row _ _ _ _ (by omega)]) (by rw [gu_row _ _ _ _ (by omega), gu_row _ _ _ _ (by omega)])⟩
    obtain ⟨h1, h2, h3⟩ := h k hk
    generalize frS cf g p a (pv + 1) (cf 3 - pv) = fr at *
    have b2 : gu (gu g 0 (plS cf p a fr) (nI (tgS cf p a fr))) 1 (plS cf p a fr) (if t = 1 then 0 else -1) 2 k = g 2 k := by simp [gu]
    rw [b2]
    refine ⟨h1, h2, fun z => ?_⟩
    by_cases e : k = plS cf p a fr
    · rw [e]; exact hfr.2.2
    · have b0 : gu (gu g 0 (plS cf p a fr) (nI (tgS cf p a fr))) 1 (plS cf p a fr) (if t = 1 then 0 else -1) 0 k = g 0 k := by simp [gu, e]
      rw [b0] at z; exact h3 z
theorem ln_i {cf : Cfg} (hc : CfgOk cf) {g : GS} {p a : Nat} {t : Int32} (h : GI g) : GI (lnS cf g p a t) := by
  have hle := pv_le cf g p a
  obtain ⟨hT, hL⟩ := (GI_iff g).mp h
  simp only [lnS]
  have h1 : GL (if hs cf 1 = true then lpS g a t (!decide (anS cf g p a = t)) else g) ∧ (if hs cf 1 = true then lpS g a t (!decide (anS cf g p a = t)) else g) 0 = g 0 ∧ (if hs cf 1 = true then lpS g a t (!decide (anS cf g p a = t)) else g) 2 = g 2 := by
    split
    · exact ⟨lp_l hL, lp_row _ _ _ _ (by omega), lp_row _ _ _ _ (by omega)⟩
    · exact ⟨hL, rfl, rfl⟩
  generalize (if hs cf 1 = true then lpS g a t (!decide (anS cf g p a = t)) else g) = g1 at h1 ⊢
  have h2 : GL (if hs cf 2 = true then crS g1 (c0S cf g p a) (c1S p a) (c2S p a) (fsS cf g p a) (toS cf g p a) (sdS cf g p a) t else g1) ∧ (if hs cf 2 = true then crS g1 (c0S cf g p a) (c1S p a) (c2S p a) (fsS cf g p a) (toS cf g p a) (sdS cf g p a) t else g1) 0 = g 0 ∧ (if hs cf 2 = true then crS g1 (c0S cf g p a) (c1S p a) (c2S p a) (fsS cf g p a) (toS cf g p a) (sdS cf g p a) t else g1) 2 = g 2 := by
    split
    · exact ⟨h1.1.cg (cr_row _ _ _ _ _ _ _ _ (by omega) (by omega)) (cr_row _ _ _ _ _ _ _ _ (by omega) (by omega)), (cr_row _ _ _ _ _ _ _ _ (by omega) (by omega)).trans h1.2.1, (cr_row _ _ _ _ _ _ _ _ (by omega) (by omega)).trans h1.2.2⟩
    · exact h1
  generalize (if hs cf 2 = true then crS g1 (c0S cf g p a) (c1S p a) (c2S p a) (fsS cf g p a) (toS cf g p a) (sdS cf g p a) t else g1) = g2 at h2 ⊢
  have k1 : GT (t2S cf g (t1S cf g g2 p a t) p a t) := t2_t hc ((hT.cg h2.2.1 h2.2.2).cg (t1_row _ _ _ _ _ _ (by omega)) (t1_row _ _ _ _ _ _ (by omega))) (by rw [t1_row _ _ _ _ _ _ (by omega)]; exact h2.2.1)
  have k2 : GT (t4S cf g (t3S cf g (t2S cf g (t1S cf g g2 p a t) p a t) p a t) p a t) := k1.cg (t34_row _ _ _ _ _ _ (by omega) (by omega)) (t34_row _ _ _ _ _ _ (by omega) (by omega))
  have k3 : GL (t4S cf g (t3S cf g (t2S cf g (t1S cf g g2 p a t) p a t) p a t) p a t) := h2.1.cg (by rw [t34_row _ _ _ _ _ _ (by omega) (by omega), t2_row _ _ _ _ _ _ (by omega), t1_row _ _ _ _ _ _ (by omega)]) (by rw [t34_row _ _ _ _ _ _ (by omega) (by omega), t2_row _ _ _ _ _ _ (by omega), t1_row _ _ _ _ _ _ (by omega)])
  unfold t5S
  split
  · exact (GI_iff _).mpr ⟨k2, k3⟩
  · exact (GI_iff _).mpr (tk_i hc k2 k3 hle)
theorem g0_i : GI g0S := by
  refine ⟨fun k hk => ?_, fun k hk => ?_⟩
  · have e : g0S 2 k = 0 := by simp [g0S]
    rw [e, i_0]; exact ⟨by omega, by omega, fun _ => rfl⟩
  · have e6 : g0S 6 k = 0 := by simp [g0S]
    have e7 : g0S 7 k = 0 := by simp [g0S]
    rw [e6, e7, i_0]; omega
