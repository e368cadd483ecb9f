/-! The class's Guesser: TABLES learn; the whole learning. -/
theorem lp_row (g : GS) (a : Nat) (t : Int32) (b : Bool) {i : Nat} (hi : i < 4 ∨ 9 ≤ i) : lpS g a t b i = g i := by
  funext k
  unfold lpS goS goS1 leS giS
  repeat' split
  all_goals (simp only [gu]; repeat' (rw [if_neg (by omega)]))
theorem gu_row (g : GS) (i k : Nat) (v : Int32) {j : Nat} (h : ¬ j = i) : gu g i k v j = g j := by
  funext x
  simp [gu, h]
theorem gs_row (g : GS) (i : Nat) (v : Int32) {j : Nat} (h : ¬ j = i) : gs g i v j = g j := by
  funext x
  simp [gs, h]
theorem cr_row (g : GS) (k0 k1 k2 : Nat) (fs to sd t : Int32) {i : Nat} (h9 : ¬ i = 9) (h13 : ¬ i = 13) : crS g k0 k1 k2 fs to sd t i = g i := by
  have hg : ∀ b, (if sd = fs then g else gs g 13 b) i = g i := by
    intro b
    split
    · rfl
    · exact gs_row _ _ _ h13
  simp only [crS, cuS]
  split
  · exact hg _
  · rw [gu_row _ _ _ _ h9, gu_row _ _ _ _ h9, gu_row _ _ _ _ h9, hg]
section TabLearn
variable {cf : Cfg} {g0 gc : GS} {P a o : Nat} {t : Int32} {M : Mem}
theorem SX.r {i : Nat} (h : SX cf g0 gc P a o M) : vX o M i = gc i := by rw [h.2.2.2.1]
theorem moveX (hc : CfgOk cf) (h : SX cf g0 gc P a o M) {tb : Nat} (ht : tb ≤ cf 3) (hn : ¬ tb = 0 → ¬ tb = cf 4) : ∃ M', fX6_move (o + 1) (nI tb) t M = some M' ∧ Ch o M M' ∧ vX o M' = mvS cf gc (P % 2 ^ 40) a tb t := by
  have h5 := hc.2.2.2.1
  have key : ∀ d : Int32, d = (if t = 1 then 1 else -1) → ∃ M', fX6_move_10 (o + 1) (nI tb) d M = some M' ∧ Ch o M M' ∧ vX o M' = mvS cf gc (P % 2 ^ 40) a tb t := by
    intro d hd
    unfold fX6_move_10 mvS
    by_cases h0 : tb = 0
    · subst h0
      rw [if_pos (show nI 0 = 0 from rfl), if_pos rfl, h.1.2.2.2.1.1, ib_n (show a % 16 < 16 by omega) (by omega), tn_n (by omega), ck_t, bdX, bI_s, ck_t, show M.1 (o + 1 + 5) (a % 16) = gc 3 (a % 16) from by rw [← h.r (i := 3)]; rfl, ← hd]
      exact ⟨_, rfl, Ch.w (c := 6) (by omega), by rw [show o + 1 + 5 = o + 6 by omega, vx_3, h.2.2.2.1]⟩
    · have hpl := pl_lt hc (P % 2 ^ 40) a (show 1 ≤ tb by omega) ht
      rw [if_neg (nI_ne0 (by omega) (by omega)), if_neg h0, ib_n (show tb < 6 by omega) (by omega), tn_n (by omega), ck_t, ck_t, h.1.2.2.2.1.2 tb (by omega) ht (hn h0), ib_n hpl (by omega), tn_n (by omega), ck_t, bdX, bI_s, ck_t, show M.1 (o + 1 + 3) (plS cf (P % 2 ^ 40) a tb) = gc 1 (plS cf (P % 2 ^ 40) a tb) from by rw [← h.r (i := 1)]; rfl, ← hd]
      exact ⟨_, rfl, Ch.w (c := 4) (by omega), by rw [show o + 1 + 3 = o + 4 by omega, vx_1, h.2.2.2.1]⟩
  unfold fX6_move
  by_cases h1 : t = 1
  · rw [if_pos h1]; exact key 1 (by rw [if_pos h1])
  · rw [if_neg h1]; exact key (-1) (by rw [if_neg h1])
theorem halveX : ∀ (m i f : Nat) (M0 M1 : Mem), i + m = 80 → m < f → Ch o M0 M1 → vX o M1 = (fun x k => if x = 2 ∧ k < i then vX o M0 x k / 2 else vX o M0 x k) → ∃ M', fX6_strainRows_67 f (o + 1) (nI i) M1 = some M' ∧ Ch o M0 M' ∧ vX o M' = haS (vX o M0) := by
  intro m
  induction m with
  | zero =>
    intro i f M0 M1 hi hf hC hv
    obtain ⟨f, rfl⟩ : ∃ z, f = z + 1 := ⟨f - 1, by omega⟩
    have : i = 80 := by omega
    subst this
    rw [fX6_strainRows_67, if_pos (nI_le (Nat.le_refl _) (by omega))]
    refine ⟨_, rfl, hC.tr ((Ch.w1 (by omega)).tr (Ch.w1 (by omega))), ?_⟩
    rw [vx_12, vx_11, hv, show (pI M1 (o + 1) 11 0).1 (o + 1) 12 = vX o M0 12 0 from by
      rw [pI_1, if_pos rfl, if_neg (by omega)]
      have : vX o M1 12 0 = vX o M0 12 0 := by rw [hv]; simp
      exact this]
    rfl
  | succ m ih =>
    intro i f M0 M1 hi hf hC hv
    obtain ⟨f, rfl⟩ : ∃ z, f = z + 1 := ⟨f - 1, by omega⟩
    rw [fX6_strainRows_67, if_neg (nI_ge (by omega) (by omega)), ib_n (show i < 80 by omega) (by omega), tn_n (by omega), ck_t, ck_t, nI_1]
    refine ih (i + 1) f M0 _ (by omega) (by omega) (hC.tr (Ch.w (c := 5) (by omega))) ?_
    rw [show o + 1 + 4 = o + 5 by omega, vx_2, show M1.1 (o + 5) i = vX o M0 2 i from by
      have : vX o M1 2 i = vX o M0 2 i := by rw [hv]; simp
      exact this]
    funext x k
    rw [hv]
    simp only [gu]
    by_cases h1 : x = 2
    · subst h1
      by_cases h2 : k = i
      · subst h2; simp
      · by_cases h3 : k < i
        · simp [h2, h3, show k < i + 1 by omega]
        · simp [h2, h3, show ¬ k < i + 1 by omega]
    · simp [h1]
theorem strainLoop (hc : CfgOk cf) : ∀ (m k f : Nat) (M1 : Mem) (gg : GS), k + m = cf 3 + 1 → 1 ≤ k → m < f → SX cf g0 gg P a o M1 → ∃ M', fX6_strainRows_7 f (o + 1) (nI k) M1 = fX6_strainRows_7 1 (o + 1) (nI (cf 3 + 1)) M' ∧ Ch o M1 M' ∧ vX o M' = dcS cf (P % 2 ^ 40) a gg k m := by
  have h5 := hc.2.2.2.1
  intro m
  induction m with
  | zero =>
    intro k f M1 gg hk h1 hf hS
    obtain ⟨f, rfl⟩ : ∃ z, f = z + 1 := ⟨f - 1, by omega⟩
    have : k = cf 3 + 1 := by omega
    subst this
    refine ⟨M1, ?_, Ch.rf, hS.2.2.2.1⟩
    rw [fX6_strainRows_7, fX6_strainRows_7, hS.2.1.2.2.2.1, if_pos (nI_lt (by omega) (by omega)), if_pos (nI_lt (by omega) (by omega))]
  | succ m ih =>
    intro k f M1 gg hk h1 hf hS
    obtain ⟨f, rfl⟩ : ∃ z, f = z + 1 := ⟨f - 1, by omega⟩
    rw [fX6_strainRows_7, hS.2.1.2.2.2.1, if_neg (nI_nlt (by omega) (by omega)), hS.2.1.2.2.2.2.1, dcS]
    by_cases ho : k = cf 4
    · rw [if_pos ((outX_eq hc (by omega) (by omega)).mpr ho), if_pos ho]
      unfold fX6_strainRows_38
      rw [nI_1]
      exact ih (k + 1) f M1 gg (by omega) (by omega) (by omega) hS
    · have hpl := pl_lt hc (P % 2 ^ 40) a h1 (show k ≤ cf 3 by omega)
      rw [if_neg (fun e => ho ((outX_eq hc (by omega) (by omega)).mp e)), if_neg ho, ib_n (show k < 6 by omega) (by omega), tn_n (by omega), ck_t, hS.1.2.2.2.1.2 k h1 (by omega) ho, ib_n hpl (by omega), tn_n (by omega), ck_t, ck_t]
      unfold fX6_strainRows_38
      rw [nI_1, show M1.1 (o + 1 + 4) (plS cf (P % 2 ^ 40) a k) = gg 2 (plS cf (P % 2 ^ 40) a k) from by rw [← hS.r (i := 2)]; rfl]
      have cw : Ch o M1 (pI M1 (o + 1 + 4) (plS cf (P % 2 ^ 40) a k) (gg 2 (plS cf (P % 2 ^ 40) a k) - 1)) := Ch.w (c := 5) (by omega)
      have vw : vX o (pI M1 (o + 1 + 4) (plS cf (P % 2 ^ 40) a k) (gg 2 (plS cf (P % 2 ^ 40) a k) - 1)) = gu gg 2 (plS cf (P % 2 ^ 40) a k) (gg 2 (plS cf (P % 2 ^ 40) a k) - 1) := by rw [show o + 1 + 4 = o + 5 by omega, vx_2, hS.2.2.2.1]
      obtain ⟨M', e, c, v⟩ := ih (k + 1) f _ _ (by omega) (by omega) (by omega) (hS.ch cw vw)
      exact ⟨M', e, cw.tr c, v⟩
theorem strainX (hc : CfgOk cf) (h : SX cf g0 gc P a o M) : ∃ M', fX6_strainRows (o + 1) M = some M' ∧ Ch o M M' ∧ vX o M' = stS cf (dcS cf (P % 2 ^ 40) a gc (pvS cf g0 (P % 2 ^ 40) a + 1) (cf 3 - pvS cf g0 (P % 2 ^ 40) a)) := by
  have h5 := hc.2.2.2.1
  have hle := pv_le cf g0 (P % 2 ^ 40) a
  unfold fX6_strainRows
  rw [h.1.2.2.2.2.1, nI_1]
  obtain ⟨M1, e1, c1, v1⟩ := strainLoop hc (cf 3 - pvS cf g0 (P % 2 ^ 40) a) (pvS cf g0 (P % 2 ^ 40) a + 1) LF M gc (by omega) (by omega) (by unfold LF; omega) h
  have h1 := h.ch c1 v1
  rw [e1, fX6_strainRows_7, h1.2.1.2.2.2.1, if_pos (nI_lt (by omega) (by omega))]
  generalize dcS cf (P % 2 ^ 40) a gc (pvS cf g0 (P % 2 ^ 40) a + 1) (cf 3 - pvS cf g0 (P % 2 ^ 40) a) = gd at *
  have r11 : M1.1 (o + 1) 11 = gd 11 0 := by rw [← v1]; rfl
  have cw : Ch o M1 (pI M1 (o + 1) 11 (gd 11 0 + 1)) := Ch.w1 (by omega)
  have vw : vX o (pI M1 (o + 1) 11 (gd 11 0 + 1)) = gs gd 11 (gd 11 0 + 1) := by rw [vx_11, v1]
  rw [r11, show (pI M1 (o + 1) 11 (gd 11 0 + 1)).1 (o + 1) 11 = gd 11 0 + 1 from by rw [pI_1]; simp, show (pI M1 (o + 1) 11 (gd 11 0 + 1)).1 (o + 1) 2 = nI (cf 2) from by rw [pI_1, if_pos rfl, if_neg (by omega)]; exact h1.2.1.2.2.1]
  unfold stS
  by_cases hA : gd 11 0 + 1 = nI (cf 2)
  · rw [if_pos hA, if_pos hA]
    obtain ⟨M', e, c, v⟩ := halveX (o := o) 80 0 LF (pI M1 (o + 1) 11 (gd 11 0 + 1)) (pI M1 (o + 1) 11 (gd 11 0 + 1)) (by omega) (by unfold LF; omega) Ch.rf (by funext x k; simp)
    exact ⟨M', e, c1.tr (cw.tr c), by rw [v, vw]⟩
  · rw [if_neg hA, if_neg hA]
    exact ⟨_, rfl, c1.tr cw, vw⟩
theorem takeLoop (hc : CfgOk cf) (ha : a < 64) (hP : P < 2 ^ 64) (h : SX cf g0 gc P a o M) : ∀ (m k f : Nat) (b : Bool), k + m = cf 3 + 1 → 1 ≤ k → m < f →
    (frS cf gc (P % 2 ^ 40) a k m = 0 → fX6_takeRow_11 f (o + 1) (nI a) (lN P) t (wkI b) (nI k) M = (if (b || exS cf k m) = true then bV (fX6_strainRows (o + 1) M) (fun M1 => some M1) else some M)) ∧
    (¬ frS cf gc (P % 2 ^ 40) a k m = 0 → ∃ M', fX6_takeRow_11 f (o + 1) (nI a) (lN P) t (wkI b) (nI k) M = some M' ∧ Ch o M M' ∧ vX o M' = gu (gu gc 0 (plS cf (P % 2 ^ 40) a (frS cf gc (P % 2 ^ 40) a k m)) (nI (tgS cf (P % 2 ^ 40) a (frS cf gc (P % 2 ^ 40) a k m)))) 1 (plS cf (P % 2 ^ 40) a (frS cf gc (P % 2 ^ 40) a k m)) (if t = 1 then 0 else -1)) := by
  have h5 := hc.2.2.2.1
  intro m
  induction m with
  | zero =>
    intro k f b hk h1 hf
    obtain ⟨f, rfl⟩ : ∃ z, f = z + 1 := ⟨f - 1, by omega⟩
    refine ⟨fun _ => ?_, fun z => absurd rfl z⟩
    rw [fX6_takeRow_11, h.2.1.2.2.2.1, if_pos (nI_lt (by omega) (by omega))]
    cases b with
    | false => rw [if_pos (show wkI false = 0 from rfl)]; rfl
    | true => rw [if_neg (by decide)]; rfl
  | succ m ih =>
    intro k f b hk h1 hf
    obtain ⟨f, rfl⟩ : ∃ z, f = z + 1 := ⟨f - 1, by omega⟩
    rw [fX6_takeRow_11, h.2.1.2.2.2.1, if_neg (nI_nlt (by omega) (by omega)), h.2.1.2.2.2.2.1, frS, exS]
    by_cases ho : k = cf 4
    · rw [if_pos ((outX_eq hc (by omega) (by omega)).mpr ho), if_pos ho, if_pos ho]
      unfold fX6_takeRow_94
      rw [nI_1]
      exact ih (k + 1) f b (by omega) (by omega) (by omega)
    · have hpl := pl_lt hc (P % 2 ^ 40) a h1 (show k ≤ cf 3 by omega)
      rw [if_neg (fun e => ho ((outX_eq hc (by omega) (by omega)).mp e)), if_neg ho, if_neg ho, ib_n (show k < 6 by omega) (by omega), tn_n (by omega), ck_t, h.1.2.2.2.1.2 k h1 (by omega) ho, ib_n hpl (by omega), tn_n (by omega), ck_t, show M.1 (o + 1 + 4) (plS cf (P % 2 ^ 40) a k) = gc 2 (plS cf (P % 2 ^ 40) a k) from by rw [← h.r (i := 2)]; rfl]
      by_cases hu : gc 2 (plS cf (P % 2 ^ 40) a k) = 0
      · rw [if_pos hu, if_pos hu]
        refine ⟨fun z => absurd z (by omega), fun _ => ?_⟩
        rw [ck_t, tgX hc h.2.1 h1 (by omega) ha hP, bI_s, ck_t, ck_t]
        have e7 : (pI M (o + 1 + 2) (plS cf (P % 2 ^ 40) a k) (nI (tgS cf (P % 2 ^ 40) a k))).1 (o + 1 + 6) k = nI (plS cf (P % 2 ^ 40) a k) := by rw [(pI_o (o + 1 + 6) (by omega)).1]; exact h.1.2.2.2.1.2 k h1 (by omega) ho
        rw [e7, ib_n hpl (by omega), tn_n (by omega), ck_t]
        have fin : ∀ d : Int32, d = (if t = 1 then 0 else -1) → ∃ M', some (pI (pI M (o + 1 + 2) (plS cf (P % 2 ^ 40) a k) (nI (tgS cf (P % 2 ^ 40) a k))) (o + 1 + 3) (plS cf (P % 2 ^ 40) a k) d) = some M' ∧ Ch o M M' ∧ vX o M' = gu (gu gc 0 (plS cf (P % 2 ^ 40) a k) (nI (tgS cf (P % 2 ^ 40) a k))) 1 (plS cf (P % 2 ^ 40) a k) (if t = 1 then 0 else -1) := by
          intro d hd
          refine ⟨_, rfl, (Ch.w (c := 3) (by omega)).tr (Ch.w (c := 4) (by omega)), ?_⟩
          rw [show o + 1 + 2 = o + 3 by omega, show o + 1 + 3 = o + 4 by omega, vx_1, vx_0, h.2.2.2.1, hd]
        by_cases ht : t = 1
        · rw [if_pos ht]; exact fin 0 (by rw [if_pos ht])
        · rw [if_neg ht, ck_t]; exact fin (-1) (by rw [if_neg ht])
      · rw [if_neg hu, if_neg hu]
        unfold fX6_takeRow_94
        rw [nI_1]
        have hh := ih (k + 1) f true (by omega) (by omega) (by omega)
        refine ⟨fun z => ?_, hh.2⟩
        rw [show (1 : Int32) = wkI true from rfl, hh.1 z]
        cases b <;> rfl
theorem takeX (hc : CfgOk cf) (ha : a < 64) (hP : P < 2 ^ 64) (h : SX cf g0 gc P a o M) : ∃ M', fX6_takeRow (o + 1) (nI a) (lN P) t M = some M' ∧ Ch o M M' ∧ vX o M' = tkS cf gc (P % 2 ^ 40) a (pvS cf g0 (P % 2 ^ 40) a) t := by
  have h5 := hc.2.2.2.1
  have hle := pv_le cf g0 (P % 2 ^ 40) a
  unfold fX6_takeRow tkS
  rw [h.1.2.2.2.2.1, nI_1, show (0 : Int32) = wkI false from rfl]
  obtain ⟨l1, l2⟩ := takeLoop (t := t) hc ha hP h (cf 3 - pvS cf g0 (P % 2 ^ 40) a) (pvS cf g0 (P % 2 ^ 40) a + 1) LF false (by omega) (by omega) (by unfold LF; omega)
  by_cases hf : frS cf gc (P % 2 ^ 40) a (pvS cf g0 (P % 2 ^ 40) a + 1) (cf 3 - pvS cf g0 (P % 2 ^ 40) a) = 0
  · rw [l1 hf]
    simp only [if_pos hf, Bool.false_or]
    by_cases he : exS cf (pvS cf g0 (P % 2 ^ 40) a + 1) (cf 3 - pvS cf g0 (P % 2 ^ 40) a) = true
    · rw [if_pos he, if_pos he]
      obtain ⟨M', e, c, v⟩ := strainX hc h
      rw [e]
      exact ⟨M', rfl, c, v⟩
    · rw [if_neg he, if_neg he]
      exact ⟨M, rfl, Ch.rf, h.2.2.2.1⟩
  · simp only [if_neg hf]
    exact l2 hf
theorem tabX (hc : CfgOk cf) (h : SX cf g0 gc P a o M) (e1 : gc 1 = g0 1) (e3 : gc 3 = g0 3) : ∃ M', fX6_learn (o + 1) t (wkI (hs cf 4)) M = some M' ∧ Ch o M M' ∧ vX o M' = t4S cf g0 (t3S cf g0 (t2S cf g0 (t1S cf g0 gc (P % 2 ^ 40) a t) (P % 2 ^ 40) a t) (P % 2 ^ 40) a t) (P % 2 ^ 40) a t := by
  have h5 := hc.2.2.2.1
  have hle := pv_le cf g0 (P % 2 ^ 40) a
  have r1 : M.1 (o + 1 + 3) = g0 1 := by rw [← e1, ← h.r (i := 1)]; rfl
  have r3 : M.1 (o + 1 + 5) = g0 3 := by rw [← e3, ← h.r (i := 3)]; rfl
  have s1 := syX hc h.1.2.2.2.1 r3 r1 hle (fun z => pv_ne cf g0 (P % 2 ^ 40) a (by omega))
  have s2 := syX hc h.1.2.2.2.1 r3 r1 (at_le cf g0 (P % 2 ^ 40) a) (fun z => at_ne cf g0 (P % 2 ^ 40) a (by omega))
  generalize hp : P % 2 ^ 40 = p at *
  have k123 : ∀ (MM : Mem) (gg : GS), SX cf g0 gg P a o MM → ∃ M', fX6_learn_123 (o + 1) t MM = some M' ∧ Ch o MM M' ∧ vX o M' = t4S cf g0 (t3S cf g0 gg p a t) p a t := by
    intro MM gg hS
    have h15 : MM.1 (o + 1) 15 = nI (pvS cf g0 p a) := by have := hS.1.2.2.2.2.1; rw [hp] at this; exact this
    unfold fX6_learn_123
    rw [h15]
    obtain ⟨M1, q1, c1, v1⟩ := moveX (t := t) hc hS hle (fun z => pv_ne cf g0 p a (by omega))
    rw [hp] at v1
    have hS1 := hS.ch c1 v1
    have h17 : M1.1 (o + 1) 17 = wkI (wkS cf g0 p a) := by have := hS1.1.2.2.2.2.2.2.1; rw [hp] at this; exact this
    have h16 : M1.1 (o + 1) 16 = nI (atS cf g0 p a) := by have := hS1.1.2.2.2.2.2.1; rw [hp] at this; exact this
    rw [q1, bV_s, h17, h16]
    unfold t4S t3S
    by_cases hw : wkS cf g0 p a = true
    · rw [if_neg (by rw [wkI_0, hw]; simp), if_pos hw]
      obtain ⟨M2, q2, c2, v2⟩ := moveX (t := t) hc hS1 (at_le cf g0 p a) (fun z => at_ne cf g0 p a (by omega))
      rw [hp] at v2
      rw [q2, bV_s]
      exact ⟨M2, rfl, c1.tr c2, v2⟩
    · rw [if_pos (by rw [wkI_0]; simpa using hw), if_neg hw]
      exact ⟨M1, rfl, c1, v1⟩
  have k62 : ∀ (MM : Mem) (gg : GS), SX cf g0 gg P a o MM → ∃ M', fX6_learn_62 (o + 1) t (syS cf g0 p a (pvS cf g0 p a)) (syS cf g0 p a (atS cf g0 p a)) MM = some M' ∧ Ch o MM M' ∧ vX o M' = t4S cf g0 (t3S cf g0 (t2S cf g0 gg p a t) p a t) p a t := by
    intro MM gg hS
    have h15 : MM.1 (o + 1) 15 = nI (pvS cf g0 p a) := by have := hS.1.2.2.2.2.1; rw [hp] at this; exact this
    unfold fX6_learn_62 t2S
    rw [h15]
    by_cases h0 : pvS cf g0 p a = 0
    · rw [if_pos (by rw [h0]; decide), if_neg (by simp [h0])]
      exact k123 MM gg hS
    · rw [if_neg (nI_nle (by omega) (by omega))]
      by_cases hq : syS cf g0 p a (pvS cf g0 p a) = syS cf g0 p a (atS cf g0 p a)
      · rw [if_pos hq, if_neg (by simp [hq])]
        exact k123 MM gg hS
      · have hpl := pl_lt hc p a (show 1 ≤ pvS cf g0 p a by omega) hle
        have hcd : (decide (0 < pvS cf g0 p a) && !decide (syS cf g0 p a (pvS cf g0 p a) = syS cf g0 p a (atS cf g0 p a))) = true := by simp [hq]; omega
        have hpp : MM.1 (o + 1 + 6) (pvS cf g0 p a) = nI (plS cf p a (pvS cf g0 p a)) := by
          have := hS.1.2.2.2.1.2 (pvS cf g0 p a) (by omega) hle (pv_ne cf g0 p a (by omega))
          rw [hp] at this; exact this
        rw [if_neg hq, ib_n (show pvS cf g0 p a < 6 by omega) (by omega), tn_n (by omega), ck_t, hpp, ib_n hpl (by omega), tn_n (by omega), ck_t, if_pos hcd, show MM.1 (o + 1 + 4) (plS cf p a (pvS cf g0 p a)) = gg 2 (plS cf p a (pvS cf g0 p a)) from by rw [← hS.r (i := 2)]; rfl]
        have u : ∀ d : Int32, d = (if syS cf g0 p a (pvS cf g0 p a) = t then 1 else -1) → ∃ M', fX6_learn_99 (o + 1) t (gg 2 (plS cf p a (pvS cf g0 p a))) d MM = some M' ∧ Ch o MM M' ∧ vX o M' = t4S cf g0 (t3S cf g0 (gu gg 2 (plS cf p a (pvS cf g0 p a)) (bd (gg 2 (plS cf p a (pvS cf g0 p a)) + (if syS cf g0 p a (pvS cf g0 p a) = t then 1 else -1)) 0 3)) p a t) p a t := by
          intro d hd
          unfold fX6_learn_99
          rw [h15, ib_n (show pvS cf g0 p a < 6 by omega) (by omega), tn_n (by omega), ck_t, bdX, bI_s, hpp, ib_n hpl (by omega), tn_n (by omega), ck_t, ← hd]
          have cw : Ch o MM (pI MM (o + 1 + 4) (plS cf p a (pvS cf g0 p a)) (bd (gg 2 (plS cf p a (pvS cf g0 p a)) + d) 0 3)) := Ch.w (c := 5) (by omega)
          obtain ⟨M', e, c, v⟩ := k123 _ _ (hS.ch cw (by rw [show o + 1 + 4 = o + 5 by omega, vx_2, hS.2.2.2.1]))
          exact ⟨M', e, cw.tr c, v⟩
        by_cases hd : syS cf g0 p a (pvS cf g0 p a) = t
        · rw [if_pos hd]; exact u 1 (by rw [if_pos hd])
        · rw [if_neg hd]; exact u (-1) (by rw [if_neg hd])
  have h15 : M.1 (o + 1) 15 = nI (pvS cf g0 p a) := by have := h.1.2.2.2.2.1; rw [hp] at this; exact this
  have h16 : M.1 (o + 1) 16 = nI (atS cf g0 p a) := by have := h.1.2.2.2.2.2.1; rw [hp] at this; exact this
  have h17 : M.1 (o + 1) 17 = wkI (wkS cf g0 p a) := by have := h.1.2.2.2.2.2.2.1; rw [hp] at this; exact this
  unfold fX6_learn
  rw [h15, s1, bI_s, h16, s2, bI_s, h17]
  unfold t1S
  by_cases h4 : hs cf 4 = true
  · rw [if_neg (by rw [wkI_0, h4]; simp)]
    by_cases hw : wkS cf g0 p a = true
    · rw [if_neg (by rw [wkI_0, hw]; simp)]
      by_cases hq : syS cf g0 p a (pvS cf g0 p a) = syS cf g0 p a (atS cf g0 p a)
      · rw [if_pos hq, if_neg (by simp [hq])]; exact k62 M gc h
      · have hcd : (hs cf 4 && (wkS cf g0 p a && !decide (syS cf g0 p a (pvS cf g0 p a) = syS cf g0 p a (atS cf g0 p a)))) = true := by simp [h4, hw, hq]
        rw [if_neg hq, if_pos hcd, show M.1 (o + 1) 10 = gc 10 0 from by rw [← h.2.2.2.1]; rfl]
        have u : ∀ d : Int32, d = (if syS cf g0 p a (atS cf g0 p a) = t then 1 else -1) → ∃ M', fX6_learn_52 (o + 1) t (syS cf g0 p a (pvS cf g0 p a)) (syS cf g0 p a (atS cf g0 p a)) (o + 1) (gc 10 0) d M = some M' ∧ Ch o M M' ∧ vX o M' = t4S cf g0 (t3S cf g0 (t2S cf g0 (gs gc 10 (bd (gc 10 0 + (if syS cf g0 p a (atS cf g0 p a) = t then 1 else -1)) 0 15)) p a t) p a t) p a t := by
          intro d hd
          unfold fX6_learn_52
          rw [bdX, bI_s, ← hd]
          have cw : Ch o M (pI M (o + 1) 10 (bd (gc 10 0 + d) 0 15)) := Ch.w1 (by omega)
          obtain ⟨M', e, c, v⟩ := k62 _ _ (h.ch cw (by rw [vx_10, h.2.2.2.1]))
          exact ⟨M', e, cw.tr c, v⟩
        by_cases hd : syS cf g0 p a (atS cf g0 p a) = t
        · rw [if_pos hd]; exact u 1 (by rw [if_pos hd])
        · rw [if_neg hd]; exact u (-1) (by rw [if_neg hd])
    · rw [if_pos (by rw [wkI_0]; simpa using hw), if_neg (by simp [hw])]; exact k62 M gc h
  · rw [if_pos (by rw [wkI_0]; simpa using h4), if_neg (by simp [h4])]; exact k62 M gc h
end TabLearn
