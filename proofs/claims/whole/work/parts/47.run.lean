/-! The RUN of a program as mathematics, and the class's run and trail. -/
def rs (W : Wd) : Nat → Nat × Rg
  | 0 => (0, fun _ => 0)
  | t + 1 => (neS W (rs W t).1 (rs W t).2, doS W (rs W t).1 (rs W t).2)
def cdS (W : Wd) (i : Nat) : Bool := decide (i < nO W) && !decide (KK W i = 10)
abbrev T3 : Type := List (Nat × Int32 × Int32)
def tr (W : Wd) : Nat → T3
  | 0 => []
  | t + 1 => if brS W (rs W t).1 = true then tr W t ++ [((rs W t).1, wkI (tkB W (rs W t).1 (rs W t).2), nI t)] else tr W t
def rn (W : Wd) : Nat → Nat → Nat
  | 0, t => t
  | m + 1, t => if cdS W (rs W t).1 = true then rn W m (t + 1) else t
def nS (W : Wd) : Nat := rn W 200 0
def yS (W : Wd) (n : Nat) : Nat := if n = 200 then 3 else if (rs W n).1 < nO W then 1 else 2
def RnOk (W : Wd) (t : Nat) : Prop := ∀ s, s < t → cdS W (rs W s).1 = true
theorem cd_o {W : Wd} {i : Nat} (h : cdS W i = true) : i < nO W ∧ ¬ KK W i = 10 := by
  simp only [cdS, Bool.and_eq_true, decide_eq_true_eq, Bool.not_eq_true', decide_eq_false_iff_not] at h
  exact h
theorem ne_le {W : Wd} {i : Nat} {r : Rg} (hW : PgOk W) (hi : i < nO W) (h10 : ¬ KK W i = 10) : neS W i r ≤ 40 := by
  have hO := hW.2.1.2
  have hop := hW.2.2.2.1 i hi
  have g : 6 ≤ KK W i → glS W i < 40 := by
    intro h6
    have := hop.1.2
    unfold glS
    split
    · rename_i e; exact (hop.2.2.2.2.2.1 e).2
    · split
      · rename_i e; exact (hop.2.2.2.2.1 e).2
      · exact (hop.2.2.2.2.2.2 (by omega)).2
  unfold neS
  split
  · have := g (by omega); omega
  · split
    · rename_i hb
      simp only [brS, Bool.and_eq_true, decide_eq_true_eq] at hb
      split
      · have := g (by omega); omega
      · omega
    · omega
theorem rs_ok {W : Wd} (hW : PgOk W) : ∀ t, RnOk W t → (rs W t).1 ≤ 40 ∧ RgOk (rs W t).2 := by
  intro t
  induction t with
  | zero => intro _; exact ⟨Nat.zero_le _, fun k => by show (0 : Nat) < 1000; omega⟩
  | succ t ih =>
    intro h
    obtain ⟨a, b⟩ := ih (fun s hs => h s (by omega))
    obtain ⟨c1, c2⟩ := cd_o (h t (by omega))
    exact ⟨ne_le hW c1 c2, do_ok (hW.2.2.2.1 _ c1) b⟩
theorem tr_len (W : Wd) : ∀ t, (tr W t).length ≤ t := by
  intro t
  induction t with
  | zero => exact Nat.le_refl _
  | succ t ih =>
    unfold tr
    split
    · rw [List.length_append]; simp; omega
    · omega
theorem rn_ok (W : Wd) : ∀ m t, RnOk W t → RnOk W (rn W m t) ∧ t ≤ rn W m t ∧ rn W m t ≤ t + m ∧ (rn W m t = t + m ∨ cdS W (rs W (rn W m t)).1 = false) := by
  intro m
  induction m with
  | zero => intro t h; exact ⟨h, Nat.le_refl _, Nat.le_refl _, Or.inl rfl⟩
  | succ m ih =>
    intro t h
    unfold rn
    by_cases hc : cdS W (rs W t).1 = true
    · rw [if_pos hc]
      obtain ⟨a, b, c, d⟩ := ih (t + 1) (fun s hs => by
        by_cases e : s = t
        · rw [e]; exact hc
        · exact h s (by omega))
      exact ⟨a, by omega, by omega, d.imp (by omega) id⟩
    · rw [if_neg hc]
      exact ⟨h, Nat.le_refl _, by omega, Or.inr (by simpa using hc)⟩
def TrX (l : T3) (M : Mem) : Prop := M.1 39 1 = nI l.length ∧ ∀ (b : Nat) (x : Nat × Int32 × Int32), l[b]? = some x → M.1 40 (9 * b) = nI x.1 ∧ M.1 40 (9 * b + 1) = x.2.1 ∧ M.1 40 (9 * b + 8) = x.2.2
def RxS (W : Wd) (t : Nat) (M : Mem) : Prop := ∀ s, s ≤ t → M.1 36 s = nI (rs W s).1 ∧ Reg 37 (8 * s) (rs W s).2 M
theorem setT {i j n : Nat} (hn : 9 * i + j < 2160) (hi : n = 9 * i + j) (M : Mem) (v : Int32) : fX8_set 39 (nI i) (nI j) v M = some (pI M 40 n v) := by
  unfold fX8_set
  rw [show (9 : Int32) * nI i = nI (9 * i) from pk_mul 9 i, nI_add, ib_n hn (by omega), ck_t, tn_n (by omega), hi]
def FrT (M M' : Mem) : Prop := (∀ c, ¬ c = 39 → ¬ c = 40 → M'.1 c = M.1 c) ∧ (∀ k, ¬ k = 1 → M'.1 39 k = M.1 39 k) ∧ M'.2 = M.2
theorem addT {l : T3} {M : Mem} {a : Nat} {t s : Int32} (hl : l.length < 240) (h : TrX l M) : ∃ M', fX8_add 39 (nI a) t s M = some M' ∧ TrX (l ++ [(a, t, s)]) M' ∧ FrT M M' := by
  unfold fX8_add
  rw [h.1, if_pos (show nI l.length < (240 : Int32) from nI_lt (b := 240) hl (by omega)), show fX8_set 39 (nI l.length) 0 (nI a) M = _ from setT (j := 0) (n := 9 * l.length) (by omega) rfl M _, bV_s]
  have e1 : (pI M 40 (9 * l.length) (nI a)).1 39 1 = nI l.length := by rw [pI_1, if_neg (by decide)]; exact h.1
  rw [e1, show fX8_set 39 (nI l.length) 1 t _ = _ from setT (j := 1) (n := 9 * l.length + 1) (by omega) rfl _ _, bV_s]
  have e2 : (pI (pI M 40 (9 * l.length) (nI a)) 40 (9 * l.length + 1) t).1 39 1 = nI l.length := by rw [pI_1, if_neg (by decide)]; exact e1
  rw [e2, show fX8_set 39 (nI l.length) 8 s _ = _ from setT (j := 8) (n := 9 * l.length + 8) (by omega) rfl _ _, bV_s]
  have e3 : (pI (pI (pI M 40 (9 * l.length) (nI a)) 40 (9 * l.length + 1) t) 40 (9 * l.length + 8) s).1 39 1 = nI l.length := by rw [pI_1, if_neg (by decide)]; exact e2
  rw [e3, nI_1]
  refine ⟨_, rfl, ⟨?_, ?_⟩, ?_, ?_, rfl⟩
  · rw [pI_1, if_pos rfl, if_pos rfl, List.length_append]; rfl
  · intro b x hx
    simp only [pI_1]
    by_cases e : b < l.length
    · rw [List.getElem?_append_left e] at hx
      obtain ⟨x1, x2, x3⟩ := h.2 b x hx
      simp only [if_neg (show ¬ (40 = 39) by decide), if_true, if_neg (show ¬ 9 * b = 9 * l.length + 8 by omega), if_neg (show ¬ 9 * b = 9 * l.length + 1 by omega), if_neg (show ¬ 9 * b = 9 * l.length by omega), if_neg (show ¬ 9 * b + 1 = 9 * l.length + 8 by omega), if_neg (show ¬ 9 * b + 1 = 9 * l.length + 1 by omega), if_neg (show ¬ 9 * b + 1 = 9 * l.length by omega), if_neg (show ¬ 9 * b + 8 = 9 * l.length + 8 by omega), if_neg (show ¬ 9 * b + 8 = 9 * l.length + 1 by omega), if_neg (show ¬ 9 * b + 8 = 9 * l.length by omega)]
      exact ⟨x1, x2, x3⟩
    · rw [List.getElem?_append_right (by omega)] at hx
      have hb : b = l.length := by
        by_cases z : b - l.length = 0
        · omega
        · rw [List.getElem?_eq_none (by simp; omega)] at hx; cases hx
      subst hb
      rw [Nat.sub_self] at hx
      cases hx
      simp only [if_neg (show ¬ (40 = 39) by decide), if_true, if_neg (show ¬ 9 * l.length = 9 * l.length + 8 by omega), if_neg (show ¬ 9 * l.length = 9 * l.length + 1 by omega), if_neg (show ¬ 9 * l.length + 1 = 9 * l.length + 8 by omega)]
      exact ⟨trivial, trivial, trivial⟩
  · intro c c1 c2
    rw [(pI_o c c1).1, (pI_o c c2).1, (pI_o c c2).1, (pI_o c c2).1]
  · intro k hk
    rw [pI_1, if_pos rfl, if_neg hk, pI_1, if_neg (by decide), pI_1, if_neg (by decide), pI_1, if_neg (by decide)]

theorem nI_nneg {n : Nat} (h : n < 2 ^ 31) : ¬ nI n < 0 := by
  rw [fa_lt, nI_toInt h, show (0 : Int32).toInt = 0 from rfl]
  omega
section RunX
variable {W : Wd} {q : Nat}
theorem Tk.fr {M M' : Mem} (h : Tk W q M) (h1 : M'.1 q = M.1 q) (h3 : M'.1 (q + 3) = M.1 (q + 3)) (h4 : M'.1 (q + 4) = M.1 (q + 4)) : Tk W q M' := ⟨by rw [h1]; exact h.1, fun i hi => by rw [h3]; exact h.2.1 i hi, fun i j hi hj => by rw [h4]; exact h.2.2 i j hi hj⟩
def FrR (M M' : Mem) : Prop := (∀ c, ¬ (35 ≤ c ∧ c ≤ 37) → ¬ c = 39 → ¬ c = 40 → M'.1 c = M.1 c) ∧ (∀ k, ¬ (k = 3 ∨ k = 4) → M'.1 35 k = M.1 35 k) ∧ (∀ k, ¬ (k = 1 ∨ k = 2) → M'.1 39 k = M.1 39 k) ∧ M'.2 = M.2
theorem FrR.tr {A B C : Mem} (h : FrR A B) (k : FrR B C) : FrR A C := ⟨fun c a b d => (k.1 c a b d).trans (h.1 c a b d), fun j hj => (k.2.1 j hj).trans (h.2.1 j hj), fun j hj => (k.2.2.1 j hj).trans (h.2.2.1 j hj), k.2.2.2.trans h.2.2.2⟩
theorem FrR.tk {M M' : Mem} (hq : q + 5 ≤ 35) (f : FrR M M') (h : Tk W q M) : Tk W q M' := h.fr (f.1 q (by omega) (by omega) (by omega)) (f.1 _ (by omega) (by omega) (by omega)) (f.1 _ (by omega) (by omega) (by omega))
-- one step's end: the op is done on the copied registers, the next op is kept
theorem step75 (hW : PgOk W) (hq : q + 5 ≤ 35) {t : Nat} {M : Mem} (ht : t < 200) (hok : RnOk W (t + 1)) (h : Tk W q M) (h3 : M.1 35 3 = nI t) (hR : RxS W t M) (hC : Reg 37 (8 * t + 8) (rs W t).2 M) : ∃ M', fX4_step_75 35 q (nI (rs W t).1) (nI (8 * t)) M = some M' ∧ RxS W (t + 1) M' ∧ (∀ c, ¬ c = 36 → ¬ c = 37 → M'.1 c = M.1 c) ∧ M'.2 = M.2 := by
  obtain ⟨c1, c2⟩ := cd_o (hok t (by omega))
  obtain ⟨b1, b2⟩ := rs_ok hW t (fun s hs => hok s (by omega))
  unfold fX4_step_75
  rw [show nI (8 * t) + 8 = nI (8 * t + 8) from nI_add _ 8]
  obtain ⟨M1, e1, r1, f1⟩ := performX hW h c1 c2 (c := 37) (f := 8 * t + 8) (n := 1608) rfl (by omega) (by omega) b2 hC
  rw [show fX7_perform q (nI (rs W t).1) (35 + 2) (nI (8 * t + 8)) M = _ from e1, bI_s, h3, nI_1, ib_n (show t + 1 < 201 by omega) (by omega), ck_t, tn_n (by omega)]
  refine ⟨_, rfl, ?_, ?_, f1.2.2⟩
  · intro s hs
    by_cases e : s = t + 1
    · subst e
      refine ⟨by rw [pI_1, if_pos rfl, if_pos rfl]; rfl, fun k hk => ?_⟩
      rw [pI_1, if_neg (by decide), show 8 * (t + 1) + k = 8 * t + 8 + k by omega]
      exact r1 k hk
    · obtain ⟨z1, z2⟩ := hR s (by omega)
      refine ⟨by rw [pI_1, if_pos rfl, if_neg e, f1.1 _ (by decide)]; exact z1, fun k hk => ?_⟩
      rw [pI_1, if_neg (by decide), f1.2.1 _ (by omega)]
      exact z2 k hk
  · intro c c1 c2
    rw [(pI_o c c1).1, f1.1 c c2]
theorem stepX (hW : PgOk W) (hq : q + 5 ≤ 35) {t : Nat} {M : Mem} (ht : t < 200) (hok : RnOk W (t + 1)) (h : Tk W q M) (h3 : M.1 35 3 = nI t) (hR : RxS W t M) (hT : TrX (tr W t) M) : ∃ M', fX4_step 35 q 39 M = some M' ∧ RxS W (t + 1) M' ∧ TrX (tr W (t + 1)) M' ∧ FrR M M' ∧ M'.1 35 3 = nI t := by
  obtain ⟨c1, c2⟩ := cd_o (hok t (by omega))
  obtain ⟨b1, b2⟩ := rs_ok hW t (fun s hs => hok s (by omega))
  unfold fX4_step
  have hcp : cpok (nI (8 * t)) (nI (8 * t + 8)) (nI 8) 1608 1608 = true := by
    unfold cpok
    rw [tn_n (by omega), tn_n (by omega), tn_n (by omega)]
    have p1 : ¬ nI (8 * t) < 0 := nI_nneg (by omega)
    have p2 : ¬ nI (8 * t + 8) < 0 := nI_nneg (by omega)
    have p3 : ¬ nI 8 < 0 := nI_nneg (by omega)
    simp only [p1, p2, p3, decide_false, Bool.not_false, Bool.true_and, Bool.and_eq_true, decide_eq_true_eq]
    omega
  rw [h3, ib_n (show t < 201 by omega) (by omega), ck_t, show (8 : Int32) * nI t = nI (8 * t) from pk_mul 8 t, show nI (8 * t) + 8 = nI (8 * t + 8) from nI_add _ 8, show cpok (nI (8 * t)) (nI (8 * t + 8)) 8 1608 1608 = true from hcp, ck_t, tn_n (show t < 2 ^ 31 by omega), tn_n (show 8 * t < 2 ^ 31 by omega), tn_n (show 8 * t + 8 < 2 ^ 31 by omega), show tn (8 : Int32) = 8 from rfl, show M.1 (35 + 1) t = nI (rs W t).1 from (hR t (by omega)).1]
  generalize hM1 : pC M (35 + 2) (35 + 2) (8 * t) (8 * t + 8) 8 = M1
  have q1 : ∀ c, ¬ c = 37 → M1.1 c = M.1 c := by
    intro c hc
    funext j
    rw [← hM1, pC_1, if_neg hc]
  have q2 : M1.2 = M.2 := by rw [← hM1]; rfl
  have q3 : ∀ j, ¬ (8 * t + 8 ≤ j ∧ j < 8 * t + 16) → M1.1 37 j = M.1 37 j := by
    intro j hj
    rw [← hM1, pC_1, if_pos rfl, if_neg (by omega)]
  have q4 : Reg 37 (8 * t + 8) (rs W t).2 M1 := by
    intro k hk
    rw [← hM1, pC_1, if_pos rfl, if_pos (by omega), show 8 * t + (8 * t + 8 + k - (8 * t + 8)) = 8 * t + k by omega]
    exact (hR t (by omega)).2 k hk
  have q5 : RxS W t M1 := by
    intro s hs
    obtain ⟨z1, z2⟩ := hR s hs
    exact ⟨by rw [q1 36 (by decide)]; exact z1, fun k hk => by rw [q3 _ (by omega)]; exact z2 k hk⟩
  have q6 : Tk W q M1 := h.fr (q1 _ (by omega)) (q1 _ (by omega)) (q1 _ (by omega))
  have q7 : M1.1 35 3 = nI t := by rw [q1 35 (by decide)]; exact h3
  have q8 : TrX (tr W t) M1 := by
    unfold TrX
    rw [q1 39 (by decide), q1 40 (by decide)]; exact hT
  rw [brX hW q6 c1, bI_s]
  by_cases hb : brS W (rs W t).1 = true
  · rw [if_neg (by rw [wkI_0, hb]; simp), show fX7_takes q (nI (rs W t).1) (35 + 2) (nI (8 * t)) M1 = _ from tksX hW q6 c1 hb (c := 37) (f := 8 * t) (n := 1608) rfl (by omega) (by omega) b2 (q5 t (by omega)).2, bI_s]
    have hl := tr_len W t
    have go : ∃ M', fX4_step_68 35 q (nI (rs W t).1) (nI (8 * t)) 39 (nI (rs W t).1) (wkI (tkB W (rs W t).1 (rs W t).2)) M1 = some M' ∧ RxS W (t + 1) M' ∧ TrX (tr W (t + 1)) M' ∧ FrR M M' ∧ M'.1 35 3 = nI t := by
      unfold fX4_step_68
      rw [q7]
      obtain ⟨M2, e2, t2, f2⟩ := addT (a := (rs W t).1) (t := wkI (tkB W (rs W t).1 (rs W t).2)) (s := nI t) (by omega) q8
      rw [e2, bV_s]
      obtain ⟨M3, e3, r3, f3, g3⟩ := step75 hW hq ht hok (q6.fr (f2.1 _ (by omega) (by omega)) (f2.1 _ (by omega) (by omega)) (f2.1 _ (by omega) (by omega))) (show M2.1 35 3 = nI t by rw [f2.1 35 (by decide) (by decide)]; exact q7) (fun s hs => by
        obtain ⟨z1, z2⟩ := q5 s hs
        exact ⟨by rw [f2.1 36 (by decide) (by decide)]; exact z1, fun k hk => by rw [f2.1 37 (by decide) (by decide)]; exact z2 k hk⟩) (fun k hk => by rw [f2.1 37 (by decide) (by decide)]; exact q4 k hk)
      refine ⟨M3, e3, r3, ?_, ⟨fun c x1 x2 x3 => ?_, fun k _ => ?_, fun k hk => ?_, ?_⟩, ?_⟩
      · have : tr W (t + 1) = tr W t ++ [((rs W t).1, wkI (tkB W (rs W t).1 (rs W t).2), nI t)] := if_pos hb
        rw [this]; unfold TrX
        rw [f3 39 (by decide) (by decide), f3 40 (by decide) (by decide)]; exact t2
      · rw [f3 c (by omega) (by omega), f2.1 c x2 x3, q1 c (by omega)]
      · rw [f3 35 (by decide) (by decide), f2.1 35 (by decide) (by decide), q1 35 (by decide)]
      · rw [f3 39 (by decide) (by decide), f2.2.1 k (by omega), q1 39 (by decide)]
      · rw [g3, f2.2.2, q2]
      · rw [f3 35 (by decide) (by decide), f2.1 35 (by decide) (by decide)]; exact q7
    by_cases ht1 : tkB W (rs W t).1 (rs W t).2 = true
    · rw [if_neg (by rw [wkI_0, ht1]; simp)]
      rw [show wkI (tkB W (rs W t).1 (rs W t).2) = 1 by rw [ht1]; rfl] at go
      exact go
    · rw [if_pos (by rw [wkI_0]; simpa using ht1)]
      rw [show wkI (tkB W (rs W t).1 (rs W t).2) = 0 by rw [wkI_0]; simpa using ht1] at go
      exact go
  · rw [if_pos (by rw [wkI_0]; simpa using hb)]
    obtain ⟨M3, e3, r3, f3, g3⟩ := step75 hW hq ht hok q6 q7 q5 q4
    refine ⟨M3, e3, r3, ?_, ⟨fun c x1 x2 x3 => ?_, fun k _ => ?_, fun k hk => ?_, ?_⟩, ?_⟩
    · have : tr W (t + 1) = tr W t := if_neg hb
      rw [this]; unfold TrX
      rw [f3 39 (by decide) (by decide), f3 40 (by decide) (by decide)]; exact q8
    · rw [f3 c (by omega) (by omega), q1 c (by omega)]
    · rw [f3 35 (by decide) (by decide), q1 35 (by decide)]
    · rw [f3 39 (by decide) (by decide), q1 39 (by decide)]
    · rw [g3, q2]
    · rw [f3 35 (by decide) (by decide)]; exact q7
theorem fol50 (hW : PgOk W) {n : Nat} {M : Mem} (hn : n ≤ 200) (hle : (rs W n).1 ≤ 40) (h : Tk W q M) (hq : q + 5 ≤ 35) (h3 : M.1 35 3 = nI n) (hR : RxS W n M) : fX4_follow_50 35 q 39 M = some (pI (pI M 39 2 (M.1 39 1)) 35 4 (nI (yS W n))) := by
  unfold fX4_follow_50 yS
  generalize hM1 : pI M 39 2 (M.1 39 1) = M1
  have e3 : M1.1 35 3 = nI n := by rw [← hM1, pI_1, if_neg (by decide)]; exact h3
  have e36 : M1.1 (35 + 1) n = nI (rs W n).1 := by rw [← hM1, pI_1, if_neg (by decide)]; exact (hR n (by omega)).1
  have eT : Tk W q M1 := by rw [← hM1]; exact h.fr (pI_o _ (by omega)).1 (pI_o _ (by omega)).1 (pI_o _ (by omega)).1
  rw [e3]
  by_cases h2 : n = 200
  · rw [if_pos (by rw [h2]; rfl), if_pos h2]; rfl
  · have hO := hW.2.1.2
    rw [if_neg (show ¬ nI n = (200 : Int32) from kE (n := 200) (by omega) (by omega) h2), if_neg h2, ib_n (show n < 201 by omega) (by omega), ck_t, tn_n (by omega), e36, hasOpX hW eT, bI_s]
    by_cases hc : (rs W n).1 < nO W
    · have hcc : (0 : Int32) ≤ nI (rs W n).1 ∧ nI (rs W n).1 < nI (nO W) := ⟨nI_pos' (by omega), nI_lt hc (by omega)⟩
      rw [show (if (0 : Int32) ≤ nI (rs W n).1 ∧ nI (rs W n).1 < nI (nO W) then (1 : Int32) else 0) = 1 from if_pos hcc, if_neg (by decide), if_pos hc]; rfl
    · have hcc : ¬ ((0 : Int32) ≤ nI (rs W n).1 ∧ nI (rs W n).1 < nI (nO W)) := fun z => nI_nlt (show nO W ≤ (rs W n).1 by omega) (by omega) z.2
      rw [show (if (0 : Int32) ≤ nI (rs W n).1 ∧ nI (rs W n).1 < nI (nO W) then (1 : Int32) else 0) = 0 from if_neg hcc, if_pos rfl, if_neg hc]; rfl
-- the class's run as kept: n steps done, why it stopped, the trail of its branches
def RunX (W : Wd) (M : Mem) : Prop := M.1 35 3 = nI (nS W) ∧ M.1 35 4 = nI (yS W (nS W)) ∧ RxS W (nS W) M
theorem folLoop (hW : PgOk W) (hq : q + 5 ≤ 35) : ∀ (m t f : Nat) (M : Mem), t + m = 200 → m < f → RnOk W t → Tk W q M → M.1 35 3 = nI t → RxS W t M → TrX (tr W t) M → ∃ M', fX4_follow_5 f 35 q 39 M = some M' ∧ M'.1 35 3 = nI (rn W m t) ∧ M'.1 35 4 = nI (yS W (rn W m t)) ∧ RxS W (rn W m t) M' ∧ TrX (tr W (rn W m t)) M' ∧ M'.1 39 2 = nI (tr W (rn W m t)).length ∧ FrR M M' := by
  have fin : ∀ (t : Nat) (M : Mem), t ≤ 200 → RnOk W t → Tk W q M → M.1 35 3 = nI t → RxS W t M → TrX (tr W t) M → ∃ M', fX4_follow_50 35 q 39 M = some M' ∧ M'.1 35 3 = nI t ∧ M'.1 35 4 = nI (yS W t) ∧ RxS W t M' ∧ TrX (tr W t) M' ∧ M'.1 39 2 = nI (tr W t).length ∧ FrR M M' := by
    intro t M ht hok h h3 hR hT
    refine ⟨_, fol50 hW ht (rs_ok hW t hok).1 h hq h3 hR, ?_, ?_, ?_, ?_, ?_, ?_, ?_, ?_, rfl⟩
    · rw [pI_1, if_pos rfl, if_neg (by decide), pI_1, if_neg (by decide)]; exact h3
    · rw [pI_1, if_pos rfl, if_pos rfl]
    · intro s hs
      refine ⟨by rw [pI_1, if_neg (by decide), pI_1, if_neg (by decide)]; exact (hR s hs).1, fun k hk => ?_⟩
      rw [pI_1, if_neg (by decide), pI_1, if_neg (by decide)]; exact (hR s hs).2 k hk
    · refine ⟨by rw [pI_1, if_neg (by decide), pI_1, if_pos rfl, if_neg (by decide)]; exact hT.1, fun b x hx => ?_⟩
      rw [(pI_o 40 (by decide)).1, (pI_o 40 (by decide)).1]; exact hT.2 b x hx
    · rw [pI_1, if_neg (by decide), pI_1, if_pos rfl, if_pos rfl]; exact hT.1
    · intro c x1 x2 x3
      rw [(pI_o c (by omega)).1, (pI_o c x2).1]
    · intro k hk
      rw [pI_1, if_pos rfl, if_neg (by omega), pI_1, if_neg (by decide)]
    · intro k hk
      rw [pI_1, if_neg (by decide), pI_1, if_pos rfl, if_neg (by omega)]
  intro m
  induction m with
  | zero =>
    intro t f M hm hf hok h h3 hR hT
    cases f with
    | zero => omega
    | succ f =>
      unfold fX4_follow_5
      rw [h3, if_pos (show (200 : Int32) ≤ nI t from nI_le (a := 200) (by omega) (by omega))]
      exact fin t M (by omega) hok h h3 hR hT
  | succ m ih =>
    intro t f M hm hf hok h h3 hR hT
    cases f with
    | zero => omega
    | succ f =>
      have hb := (rs_ok hW t hok).1
      unfold fX4_follow_5 rn
      rw [h3, if_neg (show ¬ (200 : Int32) ≤ nI t from nI_ge (b := 200) (by omega) (by omega)), ib_n (show t < 201 by omega) (by omega), ck_t, tn_n (by omega), show M.1 (35 + 1) t = nI (rs W t).1 from (hR t (by omega)).1, canDoX hW h (by omega), bI_s]
      show ∃ M', (if wkI (cdS W (rs W t).1) = 0 then _ else _) = some M' ∧ _
      by_cases hc : cdS W (rs W t).1 = true
      · rw [if_neg (by rw [wkI_0, hc]; simp), if_pos hc]
        have hok' : RnOk W (t + 1) := fun s hs => by
          by_cases e : s = t
          · rw [e]; exact hc
          · exact hok s (by omega)
        obtain ⟨M1, e1, r1, t1, f1, g1⟩ := stepX hW hq (by omega) hok' h h3 hR hT
        rw [e1, bV_s, g1, nI_1]
        have fz : FrR M (pI M1 35 3 (nI (t + 1))) := f1.tr ⟨fun c x1 x2 x3 => (pI_o c (by omega)).1, fun k hk => by rw [pI_1, if_pos rfl, if_neg (by omega)], fun k hk => by rw [pI_1, if_neg (by decide)], rfl⟩
        obtain ⟨M2, e2, a, b, c, d, e, f⟩ := ih (t + 1) f (pI M1 35 3 (nI (t + 1))) (by omega) (by omega) hok' (fz.tk hq h) (by rw [pI_1, if_pos rfl, if_pos rfl]) (fun s hs => by
          refine ⟨by rw [pI_1, if_neg (by decide)]; exact (r1 s hs).1, fun k hk => ?_⟩
          rw [pI_1, if_neg (by decide)]; exact (r1 s hs).2 k hk) ⟨by rw [pI_1, if_neg (by decide)]; exact t1.1, fun b x hx => by rw [(pI_o 40 (by decide)).1]; exact t1.2 b x hx⟩
        exact ⟨M2, e2, a, b, c, d, e, fz.tr f⟩
      · rw [if_pos (by rw [wkI_0]; simpa using hc), if_neg hc]
        exact fin t M (by omega) hok h h3 hR hT
theorem followX (hW : PgOk W) (hq : q + 5 ≤ 35) {M : Mem} (h : Tk W q M) (h0 : M.1 36 0 = 0) (hr : ∀ k, k < 8 → M.1 37 k = 0) (hT : M.1 39 1 = 0) : ∃ M', fX4_follow 35 q 39 M = some M' ∧ RunX W M' ∧ TrX (tr W (nS W)) M' ∧ M'.1 39 2 = nI (tr W (nS W)).length ∧ FrR M M' := by
  unfold fX4_follow
  have fz : FrR M (pI M 35 3 0) := ⟨fun c x1 x2 x3 => (pI_o c (by omega)).1, fun k hk => by rw [pI_1, if_pos rfl, if_neg (by omega)], fun k hk => by rw [pI_1, if_neg (by decide)], rfl⟩
  obtain ⟨M2, e2, a, b, c, d, e, f⟩ := folLoop hW hq 200 0 LF (pI M 35 3 0) (by omega) (by unfold LF; omega) (fun s hs => by omega) (fz.tk hq h) (by rw [pI_1, if_pos rfl, if_pos rfl]; rfl) (fun s hs => by
    have : s = 0 := by omega
    subst this
    refine ⟨by rw [pI_1, if_neg (by decide)]; exact h0, fun k hk => ?_⟩
    rw [pI_1, if_neg (by decide), show 8 * 0 + k = k by omega]; exact hr k hk) ⟨by rw [pI_1, if_neg (by decide)]; exact hT, fun b x hx => by cases hx⟩
  exact ⟨M2, e2, ⟨a, b, c⟩, d, e, fz.tr f⟩
end RunX
