/-! The rival set with other parts, and what a run costs; public method: cycles. -/
section Cost
variable {S : St} {M N : Mem} {W : Wd}
def cfP (W : Wd) (x : Nat) : Cfg := fun k => if k = 5 then x else cfW W k
theorem cfP_n (W : Wd) (x : Nat) {k : Nat} (h : ¬ k = 5) : cfP W x k = cfW W k := by unfold cfP; rw [if_neg h]
theorem cfP_5 (W : Wd) (x : Nat) : cfP W x 5 = x := by unfold cfP; rw [if_pos rfl]
theorem cfP_ok (hH : HdOk W) {x : Nat} (hx : x < 8) : CfgOk (cfP W x) := by
  obtain ⟨a, b, c, d, e, f, g⟩ := hH.2.2
  unfold CfgOk
  rw [cfP_n W x (by omega : ¬ 0 = 5), cfP_n W x (by omega : ¬ 1 = 5), cfP_n W x (by omega : ¬ 2 = 5), cfP_n W x (by omega : ¬ 3 = 5), cfP_n W x (by omega : ¬ 4 = 5), cfP_5]
  refine ⟨a, b, c, d, e, hx, fun t t1 t2 => ?_⟩
  rw [cfP_n W x (by omega : ¬ 10 + t = 5)]; exact g t t1 t2
theorem cfP_self (W : Wd) : cfP W (cfW W 5) = cfW W := by
  funext k
  unfold cfP
  by_cases e : k = 5
  · rw [if_pos e, e]
  · rw [if_neg e]
theorem JC.rv (h : JC S M) {M' : Mem} (f : FrX 58 M M') (hz : GZ (vX 58 M')) : JC S M' := h.sc (fun c x y z w => f c (by omega)) hz
theorem setByX (hM : JC S M) (hp : pgS (S.1 0) = true) {x : Nat} : ∃ M', fX9_setRivalBy 0 (nI x) M = some M' ∧ GX (cfP (S.1 0) x) g0S 0 58 M' ∧ JC S M' ∧ FrCl M M' := by
  unfold fX9_setRivalBy
  simp only [Nat.zero_add]
  obtain ⟨M1, e1, g1, v1, m1, f1⟩ := setAsX (o := 58) (q := 9) (M := M) rfl (by omega) hM.w.1 hM.1.2.1 hM.2.1.2.2
  rw [e1, bV_s]
  have g := g1 (hM.w.2.1 hp)
  have fz : FrX 58 M (pI M1 58 3 (nI x)) := f1.tr (FrX.pI (by omega) (by omega))
  have vz : vX 58 (pI M1 58 3 (nI x)) = vX 58 M1 := by
    funext i
    unfold vX
    split <;> first | rfl | (rw [(pI_o _ (by decide)).1])
  refine ⟨_, rfl, ⟨?_, ?_, by rw [vz]; exact v1, g.2.2.2⟩, hM.rv fz (by rw [vz, v1]; exact g0_z), fz.cl (by omega)⟩
  · obtain ⟨k0, k1, k2, k3, k4, k5⟩ := g.1
    unfold KT
    unfold outX at *
    rw [(pI_o (58 + 1) (by decide)).1, (pI_o (58 + 1 + 1) (by decide)).1, cfP_n _ x (by omega : ¬ 0 = 5), cfP_n _ x (by omega : ¬ 1 = 5), cfP_n _ x (by omega : ¬ 2 = 5), cfP_n _ x (by omega : ¬ 3 = 5), cfP_n _ x (by omega : ¬ 4 = 5)]
    refine ⟨k0, k1, k2, k3, k4, fun t t1 t2 => ?_⟩
    rw [k5 t t1 t2, cfP_n _ x (by omega : ¬ 10 + t = 5)]
  · rw [pI_1, if_pos rfl, if_pos rfl, cfP_5]
theorem l_cost {cf : Cfg} (hc : CfgOk cf) (hp : pgS (S.1 0) = true) : ∀ (m b f : Nat) (w : Int32) (M N : Mem), b + m = (tr (S.1 0) (nS (S.1 0))).length → m < f → JC S M → GX cf (gA cf ((pl (allS (S.1 0))).take b)).1 (gA cf ((pl (allS (S.1 0))).take b)).2 58 M → LyM (S.1 0) 80 N → RcM cf (pl (allS (S.1 0))) 80 (allS (S.1 0)).length N → N.1 81 = S.1 0 → ∃ v M' N', fX9_costBy_15 f 0 w (nI b) M = some (v, M') ∧ fX10_costNow_7 f 80 w (nI b) N = some (v, N') ∧ JC S M' ∧ FrCl M M' ∧ (∀ c, ¬ c = 112 → N'.1 c = N.1 c) ∧ N'.2 = N.2 := by
  intro m
  induction m with
  | zero =>
    intro b f w M N hm hf hM hG hL hR hN
    have hl := all_len hM.w.1
    have hlt : (tr (S.1 0) (nS (S.1 0))).length ≤ (allS (S.1 0)).length := by unfold allS; rw [List.length_append]; omega
    cases f with
    | zero => omega
    | succ f =>
      unfold fX9_costBy_15 fX10_costNow_7
      simp only [Nat.zero_add]
      rw [hM.1.2.2.2.2.1, hL.2.2.1, if_pos (nI_le (by omega) (by omega)), if_pos (nI_le (by omega) (by omega))]
      exact ⟨w, M, N, rfl, rfl, hM, FrCl.rf, fun _ _ => rfl, rfl⟩
  | succ m ih =>
    intro b f w M N hm hf hM hG hL hR hN
    have hl := all_len hM.w.1
    have hlt : (tr (S.1 0) (nS (S.1 0))).length ≤ (allS (S.1 0)).length := by unfold allS; rw [List.length_append]; omega
    have hb : b < (allS (S.1 0)).length := by omega
    cases f with
    | zero => omega
    | succ f =>
      obtain ⟨x, hx⟩ : ∃ x, (allS (S.1 0))[b]? = some x := ⟨(allS (S.1 0))[b], List.getElem?_eq_getElem hb⟩
      obtain ⟨x0, x1, x8⟩ := hM.1.2.2.2.1.2 b x hx
      obtain ⟨y0, y1, y8⟩ := hL.2.2.2.2.2 b x hx
      have hpx := pl_get hx
      obtain ⟨hx64, hx01⟩ := all_ok hM.w.1 b _ hpx
      have hgv : N.1 (80 + 26) b = anS cf (gA cf ((pl (allS (S.1 0))).take b)).1 (gA cf ((pl (allS (S.1 0))).take b)).2 x.1 := by
        have := hR b hb 2 (by omega) (by omega)
        have hd : (pl (allS (S.1 0))).getD b (0, 0) = (x.1, x.2.1) := by rw [List.getD_eq_getElem?_getD, hpx]; rfl
        unfold fcS at this
        simp only [hd] at this
        exact this
      unfold fX9_costBy_15 fX10_costNow_7 fX9_costBy_72 fX10_costNow_38 fX10_isWrong
      simp only [Nat.zero_add]
      rw [hM.1.2.2.2.2.1, hL.2.2.1, if_neg (nI_ge (by omega) (by omega)), if_neg (nI_ge (by omega) (by omega)), show fX8_fact 39 (nI b) 0 M = _ from factX (k := 0) (by omega) (by omega) M, bI_s, show M.1 40 (9 * b + 0) = nI x.1 from x0]
      obtain ⟨M1, e1, g1, a1, f1, m1⟩ := askX hc hx64 hG
      have j1 : JC S M1 := hM.rv f1 (by rw [g1.2.2.1]; exact (gA_ok hc _).2.1)
      have x1' : M1.1 40 (9 * b + 1) = x.2.1 := by rw [(f1 40 (by omega)).1]; exact x1
      rw [e1, bI_s, show fX8_fact 39 (nI b) 1 M1 = _ from factX (k := 1) (by omega) (by omega) M1, bI_s, x1', ib_n (show b < 240 by omega) (by omega), ck_t, ck_t, tn_n (by omega), hgv, show N.1 (80 + 10) b = _ from y1]
      have step : ∀ (M2 N2 : Mem) (u : Int32), JC S M2 → FrCl M1 M2 → (∀ c, ¬ c = 38 → M2.1 c = M1.1 c) → M2.2 = M1.2 → (∀ c, ¬ c = 112 → N2.1 c = N.1 c) → N2.2 = N.2 → ∃ v M' N', (bV (fX1_learn 58 x.2.1 M2) fun M3 => fX9_costBy_15 f 0 u (nI b + 1) M3) = some (v, M') ∧ fX10_costNow_7 f 80 u (nI b + 1) N2 = some (v, N') ∧ JC S M' ∧ FrCl M M' ∧ (∀ c, ¬ c = 112 → N'.1 c = N.1 c) ∧ N'.2 = N.2 := by
        intro M2 N2 u j2 fc q1 q2 n1 n2
        have g2 := g1.fr (fun c x y => q1 c (by omega)) (by rw [q2])
        have a2 : AX cf (gA cf ((pl (allS (S.1 0))).take b)).1 (gA cf ((pl (allS (S.1 0))).take b)).2 x.1 58 M2 := by
          unfold AX PLX at *
          rw [q1 58 (by decide), q1 (58 + 1) (by decide), q1 (58 + 16) (by decide), q1 (58 + 14) (by decide), q1 (58 + 1 + 6) (by decide)]
          exact a1
        obtain ⟨M3, e3, g3, f3, m3⟩ := learnX hc hx64 hx01 g2 a2
        have g3' : GX cf (gA cf ((pl (allS (S.1 0))).take (b + 1))).1 (gA cf ((pl (allS (S.1 0))).take (b + 1))).2 58 M3 := by rw [gA_s cf hpx]; exact g3
        rw [e3, bV_s, nI_1]
        obtain ⟨v, M', N', b1, b2, b3, b4, b5, b6⟩ := ih (b + 1) f u M3 N2 (by omega) (by omega) (j2.rv f3 (by rw [g3'.2.2.1]; exact (gA_ok hc _).2.1)) g3' (hL.mv (fun k _ _ => by rw [n1 80 (by decide)]) (fun c _ _ => n1 _ (by omega))) (fun d hd k k2 k7 => by rw [n1 _ (by omega)]; exact hR d hd k k2 k7) (by rw [n1 81 (by decide)]; exact hN)
        exact ⟨v, M', N', b1, b2, b3, (((f1.cl (by omega)).tr fc).tr (f3.cl (by omega))).tr b4, fun c hc => by rw [b5 c hc, n1 c hc], by rw [b6, n2]⟩
      by_cases hq : anS cf (gA cf ((pl (allS (S.1 0))).take b)).1 (gA cf ((pl (allS (S.1 0))).take b)).2 x.1 = x.2.1
      · rw [if_pos hq, if_pos hq, bI_s, if_pos rfl, show fX8_fact 39 (nI b) 1 M1 = _ from factX (k := 1) (by omega) (by omega) M1, bI_s, x1']
        exact step M1 N w j1 FrCl.rf (fun _ _ => rfl) rfl (fun _ _ => rfl) rfl
      · rw [if_neg hq, if_neg hq, bI_s, if_neg (by decide), show ib (3 : Int32) 6 = true from rfl, ck_t, show ib (3 : Int32) 215 = true from rfl, ck_t]
        obtain ⟨v, r', M2, N2, c1, c2, -, -, c5, c6, c7, c8⟩ := wanG j1 hp hL hN (show b < (tr (S.1 0) (nS (S.1 0))).length by omega) hgv (an_01 _ _ _ _) (by rw [x1']; exact hq)
        rw [c1, bI_s, c2, bI_s, show fX8_fact 39 (nI b) 1 M2 = _ from factX (k := 1) (by omega) (by omega) M2, bI_s, c5 40 (by decide), x1', show tn (3 : Int32) = 3 from rfl, show M1.1 (9 + 1) 3 = _ from j1.1.2.1.2.1 3 (by omega), show N.1 (80 + 1) = S.1 0 from hN]
        exact step M2 N2 _ (j1.st c5 c6) (fun c hc => ⟨c5 c (by omega), by rw [c6]⟩) c5 c6 c7 c8
theorem costE {x : Nat} (hM : JC S M) (hp : pgS (S.1 0) = true) (hx : x < 8) (hL : LyM (S.1 0) 80 N) (hR : RcM (cfP (S.1 0) x) (pl (allS (S.1 0))) 80 (allS (S.1 0)).length N) (hN : N.1 81 = S.1 0) : ∃ v M' N', fX9_costBy 0 (nI x) M = some (v, M') ∧ fX10_costNow 80 N = some (v, N') ∧ JC S M' ∧ FrCl M M' ∧ (∀ c, ¬ c = 112 → N'.1 c = N.1 c) ∧ N'.2 = N.2 := by
  unfold fX9_costBy fX10_costNow
  obtain ⟨M1, e1, g1, j1, f1⟩ := setByX (x := x) hM hp
  have hlt : (tr (S.1 0) (nS (S.1 0))).length ≤ 200 := Nat.le_trans (tr_len _ _) (nS_ok _).2.1
  rw [e1, bV_s, show M1.1 (0 + 35) 3 = _ from (j1.1.2.2.1 hp).1.1, hL.1]
  obtain ⟨v, M', N', a, b, c, d, e, f⟩ := l_cost (cfP_ok (hM.w.2.1 hp) hx) hp (tr (S.1 0) (nS (S.1 0))).length 0 LF (nI (nS (S.1 0))) M1 N (by omega) (by unfold LF; omega) j1 (by rw [gA_0]; exact g1) hL hR hN
  exact ⟨v, M', N', a, b, c, f1.tr d, e, f⟩
theorem m_cycles : Eq2 S (fX9_cycles 0) (fX10_cycles 80) := by
  intro M N hM hN
  unfold fX9_cycles fX10_cycles
  obtain ⟨N1, e1, a1, j1, f1⟩ := hN.asks
  rw [toldX hM, bI_s, e1, bI_s]
  by_cases hp : pgS (S.1 0) = true
  · have ak := a1 hp
    have hH := hM.w.2.1 hp
    have h5 : (S.1 0) 5 = nI (cfW (S.1 0) 5) := hH.1 5 (by omega)
    obtain ⟨v, M', N', c1, c2, c3, c4, c5, c6⟩ := costE (x := cfW (S.1 0) 5) hM hp hH.2.2.2.2.2.2.2.1 ak.1 (by rw [cfP_self]; exact ak.2.2.2) j1.1.2.1
    rw [wif_t hp, wif_t hp, show ib (5 : Int32) 6 = true from rfl, ck_t, show tn (5 : Int32) = 5 from rfl, show M.1 (0 + 9 + 1) 5 = _ from hM.1.2.1.2.1 5 (by omega), h5, c1, bI_s, c2, bI_s]
    exact ⟨v, M', N', S, rfl, rfl, c3, j1.j (FrJ.st c5 c6) (vM_fr (fun c x y => c5 _ (by omega)) j1.1.2.2), c4, (f1.tr (FrJ.st c5 c6)).rfr⟩
  · rw [wif_f hp, wif_f hp]
    exact ⟨_, M, N1, S, rfl, rfl, hM, j1, FrCl.rf, f1.rfr⟩
end Cost
