/-! Public methods: spanned, span. -/
section Span
variable {S : St} {M N : Mem} {W : Wd}
def cfN (W : Wd) (t x : Nat) : Cfg := fun k => if k = 10 + t then x else cfW W k
theorem cfN_n (W : Wd) (t x : Nat) {k : Nat} (h : ¬ k = 10 + t) : cfN W t x k = cfW W k := by unfold cfN; rw [if_neg h]
theorem cfN_t (W : Wd) (t x : Nat) : cfN W t x (10 + t) = x := by unfold cfN; rw [if_pos rfl]
theorem cfN_ok (hH : HdOk W) {t x : Nat} (h1 : 1 ≤ x) (hx : x ≤ 40) : CfgOk (cfN W t x) := by
  obtain ⟨a, b, c, d, e, f, g⟩ := hH.2.2
  unfold CfgOk
  rw [cfN_n W t x (by omega : ¬ 0 = 10 + t), cfN_n W t x (by omega : ¬ 1 = 10 + t), cfN_n W t x (by omega : ¬ 2 = 10 + t), cfN_n W t x (by omega : ¬ 3 = 10 + t), cfN_n W t x (by omega : ¬ 4 = 10 + t), cfN_n W t x (by omega : ¬ 5 = 10 + t)]
  refine ⟨a, b, c, d, e, f, fun s s1 s2 => ?_⟩
  by_cases e : s = t
  · subst e; rw [cfN_t]; exact ⟨h1, hx⟩
  · rw [cfN_n W t x (by omega : ¬ 10 + s = 10 + t)]; exact g s s1 s2
theorem setSpX (hM : JC S M) (hp : pgS (S.1 0) = true) {t x : Nat} (ht : t < 6) : ∃ M', fX9_setRivalSpanned 0 (nI t) (nI x) M = some M' ∧ GX (cfN (S.1 0) t x) g0S 0 58 M' ∧ JC S M' ∧ FrCl M M' := by
  unfold fX9_setRivalSpanned
  simp only [Nat.zero_add]
  obtain ⟨M1, e1, g1, v1, m1, f1⟩ := setAsX (o := 58) (q := 9) (M := M) rfl (by omega) hM.w.1 hM.1.2.1 hM.2.1.2.2
  rw [e1, bV_s, ib_n ht (by omega), ck_t, tn_n (by omega)]
  have g := g1 (hM.w.2.1 hp)
  have fz : FrX 58 M (pI M1 (58 + 1 + 1) t (nI x)) := f1.tr (FrX.pI (by omega) (by omega))
  have vz : vX 58 (pI M1 (58 + 1 + 1) t (nI x)) = vX 58 M1 := by
    funext i
    unfold vX
    split <;> first | rfl | (rw [(pI_o _ (by decide)).1])
  refine ⟨_, rfl, ⟨?_, ?_, by rw [vz]; exact v1, g.2.2.2⟩, hM.rv fz (by rw [vz, v1]; exact g0_z), fz.cl (by omega)⟩
  · obtain ⟨k0, k1, k2, k3, k4, k5⟩ := g.1
    unfold KT outX at *
    rw [(pI_o (58 + 1) (by decide)).1, cfN_n _ t x (by omega : ¬ 0 = 10 + t), cfN_n _ t x (by omega : ¬ 1 = 10 + t), cfN_n _ t x (by omega : ¬ 2 = 10 + t), cfN_n _ t x (by omega : ¬ 3 = 10 + t), cfN_n _ t x (by omega : ¬ 4 = 10 + t)]
    refine ⟨k0, k1, k2, k3, k4, fun s s1 s2 => ?_⟩
    rw [pI_1, if_pos rfl]
    by_cases e : s = t
    · subst e; rw [if_pos rfl, cfN_t]
    · rw [if_neg e, cfN_n _ t x (by omega : ¬ 10 + s = 10 + t)]; exact k5 s s1 s2
  · rw [(pI_o 58 (by decide)).1, cfN_n _ t x (by omega : ¬ 5 = 10 + t)]; exact g.2.1
theorem spanKM {N : Mem} (hK : KM (cfW W) 80 N) (t x : Nat) : KM (cfN W t x) 80 (pI N (80 + 12) t (nI x)) := by
  obtain ⟨a, b, c, d, e, f, g⟩ := hK
  unfold KM
  rw [cfN_n W t x (by omega : ¬ 0 = 10 + t), cfN_n W t x (by omega : ¬ 1 = 10 + t), cfN_n W t x (by omega : ¬ 2 = 10 + t), cfN_n W t x (by omega : ¬ 3 = 10 + t), cfN_n W t x (by omega : ¬ 4 = 10 + t), cfN_n W t x (by omega : ¬ 5 = 10 + t), (pI_o (80 + 1) (by decide)).1, (pI_o 80 (by decide)).1]
  refine ⟨a, b, c, d, e, f, fun s s1 s2 => ?_⟩
  rw [pI_1, if_pos rfl]
  by_cases e : s = t
  · subst e; rw [if_pos rfl, cfN_t]
  · rw [if_neg e, cfN_n _ t x (by omega : ¬ 10 + s = 10 + t)]; exact g s s1 s2
theorem wrongSpM (hM : JC S M) (hp : pgS (S.1 0) = true) {t x : Nat} (ht : t < 6) (h1 : 1 ≤ x) (hx : x ≤ 40) {N : Mem} (hL : LyM (S.1 0) 80 N) (hw : N.1 81 = S.1 0) (hz : GZ (vM 80 N)) : ∃ v M1 M' N', fX9_setRivalSpanned 0 (nI t) (nI x) M = some M1 ∧ fX9_rivalWrongs 0 M1 = some (nI v, M') ∧ fX10_wrongSpanned 80 (nI t) (nI x) N = some (nI v, N') ∧ v ≤ 240 ∧ JC S M' ∧ FrCl M M' ∧ FrK 80 N N' ∧ GZ (vM 80 N') ∧ LyM (S.1 0) 80 N' := by
  have hH := hM.w.2.1 hp
  have hl := all_len hM.w.1
  have hc := cfN_ok (t := t) hH h1 hx
  obtain ⟨M1, e1, g1, j1, f1⟩ := setSpX (x := x) hM hp ht
  obtain ⟨N1, t1, t2, t3, t4, t5, t6⟩ := toldM (o := 80) hM.w.1 hw
  have L1 : LyM (S.1 0) 80 N1 := hL.mv (fun k a b => t6.2.1 k (by omega)) (fun c a b => t6.1 _ (by omega) (by omega))
  have z1 : GZ (vM 80 N1) := vM_fr (fun c a b => t6.1 _ (by omega) (by omega)) hz
  have fz : FrK 80 N1 (pI N1 (80 + 12) t (nI x)) := ⟨fun c a b => (pI_o c (by omega)).1, fun k a _ => by rw [(pI_o 80 (by decide)).1], fun _ _ _ => rfl⟩
  obtain ⟨N', e2, l2, r2, z2, f2⟩ := playCf hM.w hc (N := pI N1 (80 + 12) t (nI x)) (L1.mv (fun k a b => by rw [(pI_o 80 (by decide)).1]) (fun c a b => (pI_o _ (by omega)).1)) (spanKM (t2 hH) t x) (vM_fr (fun c a b => (pI_o _ (by omega)).1) z1)
  obtain ⟨v, M', a1, a2, a3, a4, a5⟩ := l_rw hc (allS (S.1 0)).length 0 LF 0 M1 N' (by omega) (by unfold LF; omega) j1 (by rw [gA_0]; exact g1) l2 r2
  refine ⟨v, M1, M', N', e1, a1, ?_, by omega, a4, f1.tr a5, (t6.k.tr fz).tr f2.k, z2, l2⟩
  unfold fX10_wrongSpanned fX10_wrongBy
  rw [t1, bV_s, ib_n ht (by omega), ck_t, tn_n (by omega), show (pI N1 (80 + 12) t (nI x)).1 80 23 = nI (allS (S.1 0)).length by rw [(pI_o 80 (by decide)).1]; exact L1.2.2.2.2.1, e2, bV_s, l2.2.2.2.2.1, show fX10_wrongBy_4 LF 80 (nI (allS (S.1 0)).length) 0 0 N' = _ from a2, bI_s]
-- the least and the most that a span may be
def lowS (W : Wd) (t : Nat) : Nat := if t = 1 then 1 else tn (W (8 + t)) + 1
def farS (W : Wd) (t : Nat) : Nat := if t = nT W then 40 else tn (W (10 + t)) - 1
theorem sp_b (hW : WOk W) (hp : pgS W = true) {t : Nat} (h1 : 1 ≤ t) (h2 : t ≤ nT W) : W (9 + t) = nI (tn (W (9 + t))) ∧ 1 ≤ tn (W (9 + t)) ∧ tn (W (9 + t)) ≤ 40 := by
  have hH := hW.2.1 hp
  have hn := hW.1.1.2
  have := hH.2.2.2.2.2.2.2.2 t h1 h2
  have e : cfW W (10 + t) = tn (W (9 + t)) := by
    unfold cfW
    rw [if_neg (by omega), if_neg (by omega), if_neg (by omega), if_pos (by omega), show 10 + t - 1 = 9 + t by omega]
  rw [e] at this
  exact ⟨hH.2.1 t h1 h2, this⟩
theorem lf_b (hW : WOk W) (hp : pgS W = true) {t : Nat} (h1 : 1 ≤ t) (h2 : t ≤ nT W) : 1 ≤ lowS W t ∧ lowS W t ≤ farS W t ∧ farS W t ≤ 40 := by
  have ri := (hW.2.2.2.2.1 hp).2.2
  obtain ⟨-, b1, b2⟩ := sp_b hW hp h1 h2
  have lo1 : 1 ≤ lowS W t ∧ lowS W t ≤ tn (W (9 + t)) := by
    unfold lowS
    by_cases e : t = 1
    · rw [if_pos e]; exact ⟨Nat.le_refl _, b1⟩
    · rw [if_neg e]
      have := ri (t - 1) (by omega) (by omega)
      rw [show 9 + (t - 1) = 8 + t by omega, show 10 + (t - 1) = 9 + t by omega] at this
      omega
  have fa1 : tn (W (9 + t)) ≤ farS W t ∧ farS W t ≤ 40 := by
    unfold farS
    by_cases e : t = nT W
    · rw [if_pos e]; exact ⟨b2, Nat.le_refl _⟩
    · rw [if_neg e]
      have := ri t h1 (by omega)
      obtain ⟨-, c1, c2⟩ := sp_b hW hp (t := t + 1) (by omega) (by omega)
      rw [show 9 + (t + 1) = 10 + t by omega] at c1 c2
      omega
  omega
theorem lowX (hM : JC S M) (hp : pgS (S.1 0) = true) {t : Nat} (h1 : 1 ≤ t) (h2 : t ≤ nT (S.1 0)) : fX9_leastSpan 0 (nI t) M = some (nI (lowS (S.1 0) t), M) := by
  have hn := hM.w.1.1.2
  unfold fX9_leastSpan
  simp only [Nat.zero_add]
  rw [show nI t - 1 = nI (t - 1) from pk_sub (b := 1) (by omega), ib_n (show t - 1 < 6 by omega) (by omega), ck_t, tn_n (by omega)]
  obtain ⟨q1, q2⟩ := hM.1.2.1.2.2.1
  unfold lowS
  by_cases e : t = 1
  · subst e
    rw [if_pos rfl, show M.1 (9 + 2) (1 - 1) = 0 from q2]; rfl
  · rw [if_neg e, q1 (t - 1) (by omega) (by omega), (sp_b hM.w hp (t := t - 1) (by omega) (by omega)).1, nI_1, show 9 + (t - 1) = 8 + t by omega]
theorem farX (hM : JC S M) (hp : pgS (S.1 0) = true) {t : Nat} (h1 : 1 ≤ t) (h2 : t ≤ nT (S.1 0)) : fX9_mostSpan 0 (nI t) M = some (nI (farS (S.1 0) t), M) := by
  have hn := hM.w.1.1.2
  unfold fX9_mostSpan
  simp only [Nat.zero_add]
  rw [hM.1.2.1.1.2.1, hM.w.1.1.1]
  obtain ⟨q1, q2⟩ := hM.1.2.1.2.2.1
  unfold farS
  by_cases e : t = nT (S.1 0)
  · rw [if_pos (nI_le (by omega) (by omega)), if_pos e]; rfl
  · obtain ⟨c0, c1, c2⟩ := sp_b hM.w hp (t := t + 1) (by omega) (by omega)
    rw [if_neg (nI_ge (by omega) (by omega)), if_neg e, nI_1, ib_n (show t + 1 < 6 by omega) (by omega), ck_t, tn_n (by omega), q1 (t + 1) (by omega) (by omega), c0, show nI (tn ((S.1 0) (9 + (t + 1)))) - 1 = nI (tn ((S.1 0) (9 + (t + 1))) - 1) from pk_sub (b := 1) c1, show 9 + (t + 1) = 10 + t by omega]
theorem lowM (hW : WOk (S.1 0)) (hp : pgS (S.1 0) = true) (hN : N.1 81 = S.1 0) {t : Nat} (h1 : 1 ≤ t) (h2 : t ≤ nT (S.1 0)) : fX10_lowOf 80 (nI t) N = some (nI (lowS (S.1 0) t), N) := by
  have hn := hW.1.1.2
  unfold fX10_lowOf lowS
  by_cases e : t = 1
  · subst e
    rw [if_pos (show nI 1 = (1 : Int32) from rfl), if_pos rfl]; rfl
  · rw [if_neg (show ¬ nI t = (1 : Int32) from kE (n := 1) (by omega) (by omega) e), if_neg e, show (10 : Int32) + nI t = nI (10 + t) from nI_add 10 t, show nI (10 + t) - 2 = nI (10 + t - 2) from pk_sub (b := 2) (by omega), ib_n (show 10 + t - 2 < 215 by omega) (by omega), ck_t, tn_n (by omega), show N.1 (80 + 1) = S.1 0 from hN, show 10 + t - 2 = 9 + (t - 1) by omega, (sp_b hW hp (t := t - 1) (by omega) (by omega)).1, nI_1, show 9 + (t - 1) = 8 + t by omega]
theorem farM (hW : WOk (S.1 0)) (hp : pgS (S.1 0) = true) (hN : N.1 81 = S.1 0) {t : Nat} (h1 : 1 ≤ t) (h2 : t ≤ nT (S.1 0)) : fX10_farOf 80 (nI t) N = some (nI (farS (S.1 0) t), N) := by
  have hn := hW.1.1.2
  unfold fX10_farOf farS
  rw [tabsM hN, bI_s, hW.1.1.1]
  by_cases e : t = nT (S.1 0)
  · rw [if_pos (by rw [← e]), if_pos e]; rfl
  · obtain ⟨c0, c1, c2⟩ := sp_b hW hp (t := t + 1) (by omega) (by omega)
    rw [if_neg (kE (by omega) (by omega) e), if_neg e, show (10 : Int32) + nI t = nI (10 + t) from nI_add 10 t, ib_n (show 10 + t < 215 by omega) (by omega), ck_t, tn_n (by omega), show N.1 (80 + 1) = S.1 0 from hN, show 10 + t = 9 + (t + 1) by omega, c0, show nI (tn ((S.1 0) (9 + (t + 1)))) - 1 = nI (tn ((S.1 0) (9 + (t + 1))) - 1) from pk_sub (b := 1) c1, tn_n (show tn ((S.1 0) (9 + (t + 1))) < 2 ^ 31 by omega)]
theorem in_ab {x : Int32} {a b : Nat} (ha : a < 2 ^ 31) (hb : b < 2 ^ 31) (h : inS x (nI a) (nI b) = true) : ∃ m, a ≤ m ∧ m ≤ b ∧ x = nI m := by
  simp only [inS, decide_eq_true_eq] at h
  obtain ⟨h1, h2⟩ := h
  rw [fa_le, nI_toInt ha] at h1
  rw [fa_le, nI_toInt hb] at h2
  refine ⟨x.toInt.toNat, by omega, by omega, ?_⟩
  apply Int32.toInt_inj.mp
  rw [nI_toInt (by omega)]; omega
theorem m_spanned (x y : Int32) : Eq2 S (fX9_spanned 0 x y) (fX10_spanned 80 x y) := by
  intro M N hM hN
  unfold fX9_spanned fX10_spanned
  obtain ⟨N1, e1, l1, k1, f1, c1, o1, m1⟩ := laysM (o := 80) hN.w.1 rfl hN.1.2.1
  have z1 : GZ (vM 80 N1) := by rw [vM_mv c1 o1]; exact hN.1.2.2
  have j1 : JR S N1 := hN.j f1.j z1
  rw [tabX' hM, bI_s, e1, bI_s]
  by_cases hp : pgS (S.1 0) = true
  · rw [wif_t hp, tabM' j1, bI_s]
    by_cases hx : inS x 1 (nI (nT (S.1 0))) = true
    · have h5 := hM.w.1.1.2
      obtain ⟨t, t1, t2, et⟩ := in_1 (by omega) hx
      subst et
      obtain ⟨b1, b2, b3⟩ := lf_b hM.w hp t1 t2
      rw [wif_t hx, wif_t hx, lowX hM hp t1 t2, bI_s, farX hM hp t1 t2, bI_s, lowM hM.w hp j1.1.2.1 t1 t2, bI_s, farM hM.w hp j1.1.2.1 t1 t2, bI_s, wX y _ _ _ _ rfl rfl, bI_s, wM y _ _ _ _ rfl rfl, bI_s]
      by_cases hy : inS y (nI (lowS (S.1 0) t)) (nI (farS (S.1 0) t)) = true
      · obtain ⟨m, y1, y2, ey⟩ := in_ab (by omega) (by omega) hy
        subst ey
        obtain ⟨v, M1, M', N', a1, a2, a3, a4, a5, a6, a7, a8, a9⟩ := wrongSpM hM hp (t := t) (x := m) (by omega) (by omega) (by omega) l1 j1.1.2.1 z1
        rw [wif_t hy, wif_t hy, a1, bV_s, a2, bI_s, a3, bI_s]
        exact ⟨_, M', N', S, rfl, rfl, a5, j1.j a7.j a8, a6, (f1.j.tr a7.j).rfr⟩
      · rw [wif_f hy, wif_f hy]
        exact ⟨_, M, N1, S, rfl, rfl, hM, j1, FrCl.rf, f1.j.rfr⟩
    · rw [wif_f hx, wif_f hx]
      exact ⟨_, M, N1, S, rfl, rfl, hM, j1, FrCl.rf, f1.j.rfr⟩
  · have hp' : pgS (S.1 0) = false := by simpa using hp
    have hx : ¬ inS x 1 (nI (nT (S.1 0))) = true := by
      intro z
      rw [hM.w.2.2.2.2.2 hp'] at z
      obtain ⟨t, t1, t2, -⟩ := in_1 (n := 0) (by omega) z
      omega
    rw [wif_f hp, wif_f hx]
    exact ⟨_, M, N1, S, rfl, rfl, hM, j1, FrCl.rf, f1.j.rfr⟩
theorem l_span (hp : pgS (S.1 0) = true) {t : Nat} (h1 : 1 ≤ t) (h2 : t ≤ nT (S.1 0)) : ∀ (m x f f' : Nat) (a w : Int32) (M N : Mem), x + m = farS (S.1 0) t + 1 → 1 ≤ x → m < f → m < f' → JC S M → LyM (S.1 0) 80 N → N.1 81 = S.1 0 → GZ (vM 80 N) → ∃ v M' N', fX9_span_24 f 0 (nI t) a w (nI x) M = some (v, M') ∧ fX10_span_36 f' 80 (nI t) a w (nI x) N = some (v, N') ∧ JC S M' ∧ FrCl M M' ∧ FrK 80 N N' ∧ GZ (vM 80 N') := by
  intro m
  induction m with
  | zero =>
    intro x f f' a w M N hm hx1 hf hf' hM hL hw hz
    obtain ⟨b1, b2, b3⟩ := lf_b hM.w hp h1 h2
    cases f with
    | zero => omega
    | succ f =>
    cases f' with
    | zero => omega
    | succ f' =>
      unfold fX9_span_24 fX10_span_36
      rw [farX hM hp h1 h2, bI_s, farM hM.w hp hw h1 h2, bI_s, if_pos (nI_lt (by omega) (by omega)), if_pos (nI_lt (by omega) (by omega))]
      exact ⟨_, M, N, rfl, rfl, hM, FrCl.rf, FrK.rf, hz⟩
  | succ m ih =>
    intro x f f' a w M N hm hx1 hf hf' hM hL hw hz
    obtain ⟨b1, b2, b3⟩ := lf_b hM.w hp h1 h2
    have hn := hM.w.1.1.2
    cases f with
    | zero => omega
    | succ f =>
    cases f' with
    | zero => omega
    | succ f' =>
      obtain ⟨v, M1, M', N', e1, e2, e3, e4, e5, e6, e7, e8, e9⟩ := wrongSpM hM hp (t := t) (x := x) (by omega) hx1 (by omega) hL hw hz
      have w' : N'.1 81 = S.1 0 := by rw [show N'.1 81 = N.1 81 from e7.w]; exact hw
      unfold fX9_span_24 fX10_span_36 fX9_span_59 fX10_span_70
      rw [farX hM hp h1 h2, bI_s, farM hM.w hp hw h1 h2, bI_s, if_neg (nI_nlt (by omega) (by omega)), if_neg (nI_nlt (by omega) (by omega)), e1, bV_s, e2, bI_s, e3, bI_s, nI_1]
      by_cases g : w ≤ nI v
      · have g2 : ¬ nI v < w := by rw [fa_le] at g; rw [fa_lt]; omega
        rw [if_pos g, if_neg g2]
        obtain ⟨u, M2, N2, b1, b2, b3, b4, b5, b6⟩ := ih (x + 1) f f' a w M' N' (by omega) (by omega) (by omega) (by omega) e5 e9 w' e8
        exact ⟨u, M2, N2, b1, b2, b3, e6.tr b4, e7.tr b5, b6⟩
      · have g2 : nI v < w := by rw [fa_le] at g; rw [fa_lt]; omega
        rw [if_neg g, if_pos g2]
        obtain ⟨u, M2, N2, b1, b2, b3, b4, b5, b6⟩ := ih (x + 1) f f' (nI x) (nI v) M' N' (by omega) (by omega) (by omega) (by omega) e5 e9 w' e8
        exact ⟨u, M2, N2, b1, b2, b3, e6.tr b4, e7.tr b5, b6⟩
theorem m_span (x : Int32) : Eq2 S (fX9_span 0 x) (fX10_span 80 x) := by
  intro M N hM hN
  unfold fX9_span fX10_span
  obtain ⟨N1, e1, l1, k1, f1, c1, o1, m1⟩ := laysM (o := 80) hN.w.1 rfl hN.1.2.1
  have z1 : GZ (vM 80 N1) := by rw [vM_mv c1 o1]; exact hN.1.2.2
  have j1 : JR S N1 := hN.j f1.j z1
  rw [tabX' hM, bI_s, e1, bI_s]
  by_cases hp : pgS (S.1 0) = true
  · rw [wif_t hp, tabM' j1, bI_s]
    by_cases hx : inS x 1 (nI (nT (S.1 0))) = true
    · have h5 := hM.w.1.1.2
      obtain ⟨t, t1, t2, et⟩ := in_1 (by omega) hx
      subst et
      obtain ⟨b1, b2, b3⟩ := lf_b hM.w hp t1 t2
      obtain ⟨v, M1, M', N', a1, a2, a3, a4, a5, a6, a7, a8, a9⟩ := wrongSpM hM hp (t := t) (x := lowS (S.1 0) t) (by omega) (by omega) (by omega) l1 j1.1.2.1 z1
      have w' : N'.1 81 = S.1 0 := by rw [show N'.1 81 = N1.1 81 from a7.w]; exact j1.1.2.1
      obtain ⟨u, M2, N2, d1, d2, d3, d4, d5, d6⟩ := l_span hp t1 t2 (farS (S.1 0) t - lowS (S.1 0) t) (lowS (S.1 0) t + 1) 99999 LF (nI (lowS (S.1 0) t)) (nI v) M' N' (by omega) (by omega) (by omega) (by unfold LF; omega) a5 a9 w' a8
      rw [wif_t hx, wif_t hx, lowX hM hp t1 t2, bI_s, lowM hM.w hp j1.1.2.1 t1 t2, bI_s, a3, bI_s, show ∀ z, fX9_span_24 LF 0 (nI t) (-1) 241 z M = (bI (fX9_mostSpan 0 (nI t) M) fun r2 M1 => if r2 < z then some (-1, M1) else bV (fX9_setRivalSpanned 0 (nI t) z M1) fun M3 => bI (fX9_rivalWrongs 0 M3) fun r5 M4 => if (241 : Int32) ≤ r5 then fX9_span_59 (fX9_span_24 99999) 0 (nI t) (-1) 241 z M4 else fX9_span_59 (fX9_span_24 99999) 0 (nI t) z r5 z M4) from fun _ => rfl, farX hM hp t1 t2, bI_s, if_neg (nI_nlt (by omega) (by omega)), a1, bV_s, a2, bI_s, if_neg (show ¬ (241 : Int32) ≤ nI v from nI_ge (b := 241) (by omega) (by omega))]
      unfold fX9_span_59
      rw [nI_1]
      exact ⟨u, M2, N2, S, d1, d2, d3, j1.j (a7.j.tr d5.j) d6, a6.tr d4, (f1.j.tr (a7.j.tr d5.j)).rfr⟩
    · rw [wif_f hx, wif_f hx]
      exact ⟨_, M, N1, S, rfl, rfl, hM, j1, FrCl.rf, f1.j.rfr⟩
  · have hp' : pgS (S.1 0) = false := by simpa using hp
    have hx : ¬ inS x 1 (nI (nT (S.1 0))) = true := by
      intro z
      rw [hM.w.2.2.2.2.2 hp'] at z
      obtain ⟨t, t1, t2, -⟩ := in_1 (n := 0) (by omega) z
      omega
    rw [wif_f hp, wif_f hx]
    exact ⟨_, M, N1, S, rfl, rfl, hM, j1, FrCl.rf, f1.j.rfr⟩
end Span
