/-! The class rebuilds: run, trail, facts, own guesser. -/
section Rebuild
variable {W : Wd}
theorem wkI_01 (b : Bool) : wkI b = 0 ∨ wkI b = 1 := by cases b <;> simp [wkI]
theorem tr_ok (hW : PgOk W) : ∀ t, RnOk W t → ∀ x, x ∈ tr W t → x.1 < 40 ∧ (x.2.1 = 0 ∨ x.2.1 = 1) := by
  have hO := hW.2.1.2
  intro t
  induction t with
  | zero => intro _ x hx; cases hx
  | succ t ih =>
    intro h x hx
    unfold tr at hx
    split at hx
    · rw [List.mem_append] at hx
      cases hx with
      | inl z => exact ih (fun s hs => h s (by omega)) x z
      | inr z =>
        have := List.mem_singleton.mp z
        subst this
        exact ⟨by have := (cd_o (h t (by omega))).1; show (rs W t).1 < 40; omega, wkI_01 _⟩
    · exact ih (fun s hs => h s (by omega)) x hx
theorem all_ok (hW : PgOk W) : BOk (pl (allS W)) := by
  intro b x hx
  have hm : x ∈ pl (allS W) := List.mem_of_getElem? hx
  unfold pl at hm
  rw [List.mem_map] at hm
  obtain ⟨y, hy, rfl⟩ := hm
  unfold allS at hy
  rw [List.mem_append] at hy
  cases hy with
  | inl z =>
    obtain ⟨a, b⟩ := tr_ok hW _ (nS_ok W).1 y z
    exact ⟨by show y.1 < 64; omega, b⟩
  | inr z =>
    unfold acS at z
    rw [List.mem_map] at z
    obtain ⟨i, hi, rfl⟩ := z
    rw [List.mem_range] at hi
    have := (hW.2.2.2.2 i hi).2
    refine ⟨by show AA W i / 2 < 64; omega, ?_⟩
    have h2 : AA W i % 2 = 0 ∨ AA W i % 2 = 1 := by omega
    show nI (AA W i % 2) = 0 ∨ nI (AA W i % 2) = 1
    cases h2 with
    | inl e => left; rw [e]; rfl
    | inr e => right; rw [e]; rfl
def FrZ (M M' : Mem) : Prop := (∀ c, ¬ (35 ≤ c ∧ c ≤ 37) → ¬ (39 ≤ c ∧ c ≤ 57) → M'.1 c = M.1 c ∧ M'.2 c = M.2 c)
theorem FrZ.tr {A B C : Mem} (h : FrZ A B) (k : FrZ B C) : FrZ A C := fun c a b => ⟨(k c a b).1.trans (h c a b).1, (k c a b).2.trans (h c a b).2⟩
theorem FrO.z {A B : Mem} (h : FrO A B) : FrZ A B := fun c a b => h c (by omega)
theorem rec84 {cf : Cfg} (hc : CfgOk cf) {l : T3} (hl : l.length ≤ 240) (hB : BOk (pl l)) : ∀ (m b f : Nat) (M : Mem), b + m = l.length → m < f → TrX l M → FcX cf l b M → GX cf (gA cf ((pl l).take b)).1 (gA cf ((pl l).take b)).2 41 M → M.1 41 5 = nI b → ∃ M', fX9_rebuild_84 f 0 (nI b) M = some M' ∧ TrX l M' ∧ FcX cf l l.length M' ∧ GX cf (gA cf ((pl l).take l.length)).1 (gA cf ((pl l).take l.length)).2 41 M' ∧ M'.1 41 5 = nI l.length ∧ FrO M M' := by
  intro m
  induction m with
  | zero =>
    intro b f M hm hf hT hF hG h5
    have : b = l.length := by omega
    subst this
    cases f with
    | zero => omega
    | succ f =>
      unfold fX9_rebuild_84
      simp only [Nat.zero_add]
      rw [hT.1, if_pos (nI_le (by omega) (by omega))]
      exact ⟨M, rfl, hT, hF, hG, h5, fun c _ => ⟨rfl, rfl⟩⟩
  | succ m ih =>
    intro b f M hm hf hT hF hG h5
    cases f with
    | zero => omega
    | succ f =>
      unfold fX9_rebuild_84
      simp only [Nat.zero_add]
      rw [hT.1, if_neg (nI_ge (by omega) (by omega))]
      obtain ⟨M1, e1, t1, g1, m1, f1, j1, c1⟩ := recordX hc hl hB (by omega) hT hG h5
      rw [e1, bV_s, nI_1]
      obtain ⟨M2, e2, t2, F2, g2, m2, f2⟩ := ih (b + 1) f M1 (by omega) (by omega) t1 (fun d hd k hk2 hk7 => by
        by_cases e : d = b
        · subst e; exact c1 k hk2 hk7
        · rw [j1 _ (by omega)]; exact hF d (by omega) k hk2 hk7) g1 m1
      exact ⟨M2, e2, t2, F2, g2, m2, f1.tr f2⟩
theorem acts35 (hW : PgOk W) {q : Nat} : ∀ (m i f : Nat) (M : Mem), i + m = nA W → m < f → Tw W 9 M → TrX (tr W (nS W) ++ acS W i) M → ∃ M', fX9_rebuild_35 f 0 (nI i) M = fX9_rebuild_84 LF 0 0 M' ∧ TrX (allS W) M' ∧ FrT M M' := by
  have hA := hW.2.2.1.2
  intro m
  induction m with
  | zero =>
    intro i f M hm hf hw hT
    cases f with
    | zero => omega
    | succ f =>
      unfold fX9_rebuild_35
      simp only [Nat.zero_add]
      rw [hw.1.2.2, hW.2.2.1.1, if_pos (nI_le (by omega) (by omega))]
      have : i = nA W := by omega
      subst this
      exact ⟨M, rfl, hT, fun _ _ _ => rfl, fun _ _ => rfl, rfl⟩
  | succ m ih =>
    intro i f M hm hf hw hT
    cases f with
    | zero => omega
    | succ f =>
      obtain ⟨a1, a2⟩ := hW.2.2.2.2 i (by omega)
      unfold fX9_rebuild_35
      simp only [Nat.zero_add]
      rw [hw.1.2.2, hW.2.2.1.1, if_neg (nI_ge (by omega) (by omega)), ib_n (show i < 40 by omega) (by omega), ck_t, ck_t, tn_n (by omega), hw.2.2.2.2 i (by omega), a1, show nI (AA W i) / 2 = nI (AA W i / 2) from pk_div (d := 2) (by omega) (by omega) (by omega), show irm (nI (AA W i)) 2 = nI (AA W i % 2) from pk_rem (d := 2) (by omega) (by omega) (by omega)]
      have hl : (tr W (nS W) ++ acS W i).length < 240 := by
        have h1 := tr_len W (nS W)
        have h2 := (nS_ok W).2.1
        rw [List.length_append, acS_len]; omega
      obtain ⟨M1, e1, t1, f1⟩ := addT (a := AA W i / 2) (t := nI (AA W i % 2)) (s := -1) hl hT
      rw [e1, bV_s, nI_1]
      obtain ⟨M2, e2, t2, f2⟩ := ih (i + 1) f M1 (by omega) (by omega) (hw.fr (fun c c1 c2 => f1.1 c (by omega) (by omega))) (by rw [acS_s, ← List.append_assoc]; exact t1)
      exact ⟨M2, e2, t2, fun c a b => (f2.1 c a b).trans (f1.1 c a b), fun k hk => (f2.2.1 k hk).trans (f1.2.1 k hk), f2.2.2.trans f1.2.2⟩
-- what the class keeps of a program told
def pgS (W : Wd) : Bool := decide (0 < W 9)
def WOk (W : Wd) : Prop := PgOk W ∧ (pgS W = true → HdOk W) ∧ (pgS W = false → nO W = 0 ∧ nA W = 0) ∧ (∀ k, 215 ≤ k → W k = 0) ∧ (pgS W = true → tn (W 3) ≤ 20 ∧ tn (W 4) ≤ 9 ∧ ∀ t, 1 ≤ t → t < nT W → tn (W (9 + t)) < tn (W (10 + t))) ∧ (pgS W = false → nT W = 0)
theorem WOk.nil (h : WOk W) (hp : pgS W = false) : nS W = 0 ∧ tr W (nS W) = [] ∧ allS W = [] := by
  obtain ⟨a, b⟩ := h.2.2.1 hp
  have hn : nS W = 0 := by
    unfold nS rn
    have : cdS W (rs W 0).1 = false := by unfold cdS; simp [a]
    rw [this]; rfl
  have ht : tr W (nS W) = [] := by rw [hn]; rfl
  refine ⟨hn, ht, ?_⟩
  unfold allS
  rw [ht, b]; rfl
def OwX (W : Wd) (M : Mem) : Prop := (KT (cfW W) 42 M ∧ M.1 41 3 = nI (cfW W 5)) ∧ ∃ m, m ≤ 240 ∧ M.1 41 5 = nI m ∧ (m ≤ (allS W).length → GX (cfW W) (gA (cfW W) ((pl (allS W)).take m)).1 (gA (cfW W) ((pl (allS W)).take m)).2 41 M)
def CW (W : Wd) (M : Mem) : Prop := (pgS W = true → RunX W M ∧ OwX W M) ∧ TrX (allS W) M ∧ M.1 39 2 = nI (tr W (nS W)).length ∧ FcX (cfW W) (allS W) (allS W).length M
def Rx0 (M : Mem) : Prop := (M.1 36 0 = 0 ∧ M.1 5 0 = 0) ∧ ∀ k, k < 8 → M.1 37 k = 0
theorem rebuildX (hO : WOk W) {M : Mem} (h : Tw W 9 M) (h0 : Rx0 M) (hz : GZ (vX 41 M)) : ∃ M', fX9_rebuild 0 M = some M' ∧ CW W M' ∧ Rx0 M' ∧ GZ (vX 41 M') ∧ FrZ M M' := by
  have hW := hO.1
  unfold fX9_rebuild
  simp only [Nat.zero_add]
  unfold fX8_clear
  rw [bV_s]
  generalize hM1 : pI (pI M 39 1 0) 39 2 0 = M1
  have a1 : ∀ c, ¬ c = 39 → M1.1 c = M.1 c := fun c hc => by rw [← hM1, (pI_o c hc).1, (pI_o c hc).1]
  have a2 : M1.2 = M.2 := by rw [← hM1]; rfl
  have a3 : M1.1 39 1 = 0 := by rw [← hM1, pI_1, if_pos rfl, if_neg (by decide), pI_1, if_pos rfl, if_pos rfl]
  have z1 : GZ (vX 41 M1) := by
    have : vX 41 M1 = vX 41 M := by
      funext i
      unfold vX
      split <;> first | rfl | (rw [a1 _ (by decide)])
    rw [this]; exact hz
  obtain ⟨M2, e2, g2, v2, m2, f2⟩ := setAsX (o := 41) (q := 9) (M := M1) rfl (by omega) hW (h.fr (fun c c1 c2 => a1 c (by omega))) z1
  rw [e2, bV_s]
  have t2 : Tw W 9 M2 := h.fr (fun c c1 c2 => by rw [(f2 c (by omega)).1, a1 c (by omega)])
  obtain ⟨M3, e3, r3, T3', s3, f3⟩ := followX hW (q := 9) (by omega) t2.2.2.2.1 (show M2.1 36 0 = 0 by rw [(f2 36 (by omega)).1, a1 36 (by decide)]; exact h0.1.1) (fun k hk => by rw [(f2 37 (by omega)).1, a1 37 (by decide)]; exact h0.2 k hk) (show M2.1 39 1 = 0 by rw [(f2 39 (by omega)).1]; exact a3)
  rw [e3, bV_s]
  have t3 : Tw W 9 M3 := t2.fr (fun c c1 c2 => f3.1 c (by omega) (by omega) (by omega))
  obtain ⟨M4, e4, t4, f4⟩ := acts35 hW (q := 9) (nA W) 0 LF M3 (by omega) (by have := hW.2.2.1.2; unfold LF; omega) t3 (by
    have : tr W (nS W) ++ acS W 0 = tr W (nS W) := by show tr W (nS W) ++ [] = _; simp
    rw [this]; exact T3')
  rw [show fX9_rebuild_35 LF 0 0 M3 = _ from e4]
  have hl := all_len hW
  have c34 : ∀ c, ¬ (35 ≤ c ∧ c ≤ 37) → ¬ c = 39 → ¬ c = 40 → M4.1 c = M2.1 c := fun c x1 x2 x3 => by rw [f4.1 c x2 x3, f3.1 c x1 x2 x3]
  have d34 : M4.2 = M2.2 := by rw [f4.2.2, f3.2.2.2]
  have vs : VSame 41 M2 M4 := ⟨fun c hc => c34 c (by omega) (by omega) (by omega), fun k _ => by rw [c34 (41 + 1) (by omega) (by omega) (by omega)], fun k _ => by rw [c34 (41 + 14) (by omega) (by omega) (by omega)], by rw [c34 41 (by omega) (by omega) (by omega)], by rw [d34]⟩
  have run : ∀ M5 : Mem, FrO M4 M5 → RunX W M5 := by
    intro M5 f5
    refine ⟨?_, ?_, fun s hs => ⟨?_, fun k hk => ?_⟩⟩
    · rw [(f5 35 (by omega)).1, f4.1 35 (by omega) (by omega)]; exact r3.1
    · rw [(f5 35 (by omega)).1, f4.1 35 (by omega) (by omega)]; exact r3.2.1
    · rw [(f5 36 (by omega)).1, f4.1 36 (by omega) (by omega)]; exact (r3.2.2 s hs).1
    · rw [(f5 37 (by omega)).1, f4.1 37 (by omega) (by omega)]; exact (r3.2.2 s hs).2 k hk
  have fin : ∃ M5, fX9_rebuild_84 LF 0 0 M4 = some M5 ∧ TrX (allS W) M5 ∧ FcX (cfW W) (allS W) (allS W).length M5 ∧ (pgS W = true → GX (cfW W) (gA (cfW W) ((pl (allS W)).take (allS W).length)).1 (gA (cfW W) ((pl (allS W)).take (allS W).length)).2 41 M5) ∧ M5.1 41 5 = nI (allS W).length ∧ GZ (vX 41 M5) ∧ FrO M4 M5 := by
    have h45 : M4.1 41 5 = nI 0 := by rw [c34 41 (by omega) (by omega) (by omega)]; exact m2
    by_cases hp : pgS W = true
    · have hH := hO.2.1 hp
      have g4 : GX (cfW W) (gA (cfW W) ((pl (allS W)).take 0)).1 (gA (cfW W) ((pl (allS W)).take 0)).2 41 M4 := by
        rw [gA_0]
        exact (g2 hH).mv vs
      obtain ⟨M5, e5, t5, F5, g5, m5, f5⟩ := rec84 hH.2.2 hl (all_ok hW) (allS W).length 0 LF M4 (by omega) (by unfold LF; omega) t4 (fun d hd => by omega) g4 h45
      exact ⟨M5, e5, t5, F5, fun _ => g5, m5, by rw [g5.2.2.1]; exact (gA_ok hH.2.2 _).2.1, f5⟩
    · have hp' : pgS W = false := by simpa using hp
      have hal := (hO.nil hp').2.2
      have e : fX9_rebuild_84 LF 0 0 M4 = some M4 := by
        unfold LF fX9_rebuild_84
        simp only [Nat.zero_add]
        rw [t4.1, hal]; rfl
      refine ⟨M4, e, t4, ?_, fun h => absurd h hp, by rw [hal]; exact h45, ?_, fun c _ => ⟨rfl, rfl⟩⟩
      · rw [hal]; intro b hb; exact absurd hb (Nat.not_lt_zero _)
      · rw [vs.v, v2]; exact g0_z
  obtain ⟨M5, e5, t5, F5, g5, m5, z5, f5⟩ := fin
  have r5 := run M5 f5
  refine ⟨M5, e5, ⟨fun hp => ⟨r5, ⟨(g5 hp).1, (g5 hp).2.1⟩, (allS W).length, hl, m5, fun _ => g5 hp⟩, t5, ?_, F5⟩, ?_, z5, ?_⟩
  · rw [(f5 39 (by omega)).1, f4.2.1 2 (by decide)]; exact s3
  · refine ⟨⟨(r5.2.2 0 (by omega)).1, by rw [(f5 5 (by omega)).1, c34 5 (by omega) (by omega) (by omega), (f2 5 (by omega)).1, a1 5 (by omega)]; exact h0.1.2⟩, fun k hk => ?_⟩
    have := (r5.2.2 0 (by omega)).2 k hk
    rw [show 8 * 0 + k = k by omega] at this
    exact this
  · intro c x1 x2
    refine ⟨?_, ?_⟩
    · rw [(f5 c (by omega)).1, c34 c x1 (by omega) (by omega), (f2 c (by omega)).1, a1 c (by omega)]
    · rw [(f5 c (by omega)).2, d34, (f2 c (by omega)).2, a2]
end Rebuild
