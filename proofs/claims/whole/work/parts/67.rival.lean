/-! The rival's wrong guesses along the trail; public method: by. -/
section Rival
variable {S : St} {M N : Mem} {W : Wd}
theorem l_rw {cf : Cfg} (hc : CfgOk cf) : ∀ (m b f k : Nat) (M N : Mem), b + m = (allS (S.1 0)).length → m < f → JC S M → GX cf (gA cf ((pl (allS (S.1 0))).take b)).1 (gA cf ((pl (allS (S.1 0))).take b)).2 58 M → LyM (S.1 0) 80 N → RcM cf (pl (allS (S.1 0))) 80 (allS (S.1 0)).length N → ∃ v M', fX9_rivalWrongs_4 f 0 (nI k) (nI b) M = some (nI v, M') ∧ fX10_wrongBy_4 f 80 (nI (allS (S.1 0)).length) (nI k) (nI b) N = some (nI v, N) ∧ v ≤ k + m ∧ JC S M' ∧ FrCl M M' := by
  intro m
  induction m with
  | zero =>
    intro b f k M N hm hf hM hG hL hR
    have hl := all_len hM.w.1
    cases f with
    | zero => omega
    | succ f =>
      unfold fX9_rivalWrongs_4 fX10_wrongBy_4
      simp only [Nat.zero_add]
      rw [hM.1.2.2.2.1.1, if_pos (nI_le (by omega) (by omega)), if_pos (nI_le (by omega) (by omega))]
      exact ⟨k, M, rfl, rfl, by omega, hM, FrCl.rf⟩
  | succ m ih =>
    intro b f k M N hm hf hM hG hL hR
    have hl := all_len hM.w.1
    have hb : b < (allS (S.1 0)).length := by omega
    cases f with
    | zero => omega
    | succ f =>
      obtain ⟨x, hx⟩ : ∃ x, (allS (S.1 0))[b]? = some x := ⟨(allS (S.1 0))[b], List.getElem?_eq_getElem hb⟩
      obtain ⟨x0, x1, x8⟩ := hM.1.2.2.2.1.2 b x hx
      obtain ⟨y0, y1, y8⟩ := hL.2.2.2.2.2 b x hx
      have hpx := pl_get hx
      obtain ⟨hx64, hx01⟩ := all_ok hM.w.1 b _ hpx
      have hgv : N.1 (80 + 26) b = anS cf (gA cf ((pl (allS (S.1 0))).take b)).1 (gA cf ((pl (allS (S.1 0))).take b)).2 x.1 := by
        have := hR b hb 2 (by omega) (by omega)
        have hd : (pl (allS (S.1 0))).getD b (0, 0) = (x.1, x.2.1) := by rw [List.getD_eq_getElem?_getD, hpx]; rfl
        unfold fcS at this
        simp only [hd] at this
        exact this
      unfold fX9_rivalWrongs_4 fX10_wrongBy_4 fX9_rivalWrongs_46 fX10_wrongBy_23 fX10_isWrong
      simp only [Nat.zero_add]
      rw [hM.1.2.2.2.1.1, if_neg (nI_ge (by omega) (by omega)), if_neg (nI_ge (by omega) (by omega)), show fX8_fact 39 (nI b) 0 M = _ from factX (k := 0) (by omega) (by omega) M, bI_s, show M.1 40 (9 * b + 0) = nI x.1 from x0]
      obtain ⟨M1, e1, g1, a1, f1, m1⟩ := askX hc hx64 hG
      have j1 : JC S M1 := hM.rv f1 (by rw [g1.2.2.1]; exact (gA_ok hc _).2.1)
      have x1' : M1.1 40 (9 * b + 1) = x.2.1 := by rw [(f1 40 (by omega)).1]; exact x1
      obtain ⟨M3, e3, g3, f3, m3⟩ := learnX hc hx64 hx01 g1 a1
      have g3' : GX cf (gA cf ((pl (allS (S.1 0))).take (b + 1))).1 (gA cf ((pl (allS (S.1 0))).take (b + 1))).2 58 M3 := by rw [gA_s cf hpx]; exact g3
      have j3 : JC S M3 := j1.rv f3 (by rw [g3'.2.2.1]; exact (gA_ok hc _).2.1)
      rw [e1, bI_s, show fX8_fact 39 (nI b) 1 M1 = _ from factX (k := 1) (by omega) (by omega) M1, bI_s, x1', ib_n (show b < 240 by omega) (by omega), ck_t, ck_t, tn_n (by omega), hgv, show N.1 (80 + 10) b = _ from y1, show fX8_fact 39 (nI b) 1 M1 = _ from factX (k := 1) (by omega) (by omega) M1, bI_s, x1', e3, bV_s, nI_1, Int32.add_zero, nI_1]
      by_cases hq : anS cf (gA cf ((pl (allS (S.1 0))).take b)).1 (gA cf ((pl (allS (S.1 0))).take b)).2 x.1 = x.2.1
      · rw [if_pos hq, if_pos hq, bI_s, if_pos rfl]
        obtain ⟨v, M', b1, b2, b3, b4, b5⟩ := ih (b + 1) f k M3 N (by omega) (by omega) j3 g3' hL hR
        exact ⟨v, M', b1, b2, by omega, b4, ((f1.cl (by omega)).tr (f3.cl (by omega))).tr b5⟩
      · rw [if_neg hq, if_neg hq, bI_s, e3, bV_s, bI_s, if_neg (by decide)]
        obtain ⟨v, M', b1, b2, b3, b4, b5⟩ := ih (b + 1) f (k + 1) M3 N (by omega) (by omega) j3 g3' hL hR
        exact ⟨v, M', b1, b2, by omega, b4, ((f1.cl (by omega)).tr (f3.cl (by omega))).tr b5⟩
theorem playCf (hW : WOk W) {cf : Cfg} (hc : CfgOk cf) {N : Mem} (hL : LyM W 80 N) (hK : KM cf 80 N) (hz : GZ (vM 80 N)) : ∃ N', fX10_play 80 (nI (allS W).length) N = some N' ∧ LyM W 80 N' ∧ RcM cf (pl (allS W)) 80 (allS W).length N' ∧ GZ (vM 80 N') ∧ FrM 80 N N' := by
  have hl := all_len hW.1
  obtain ⟨N', e, f, g, r⟩ := playM (o := 80) hc (l := pl (allS W)) (by rw [pl_len]; exact hl) (all_ok hW.1) (m := (allS W).length) (by rw [pl_len]; exact Nat.le_refl _) hK hz hL.2.2.2.2.b
  refine ⟨N', e, hL.mv (fun k a b => f.2.1 k (by omega)) (fun c a b => f.1 _ (by omega) (by omega)), r, ?_, f⟩
  rw [g.2.1]; exact (gA_ok hc _).2.1
theorem byKM (hH : HdOk W) {N : Mem} (hK : KM (cfW W) 80 N) (x : Nat) : KM (cfP W x) 80 (pI N 80 25 (nI x)) := by
  obtain ⟨a, b, c, d, e, f, g⟩ := hK
  unfold KM
  rw [cfP_n W x (by omega : ¬ 0 = 5), cfP_n W x (by omega : ¬ 1 = 5), cfP_n W x (by omega : ¬ 2 = 5), cfP_n W x (by omega : ¬ 3 = 5), cfP_n W x (by omega : ¬ 4 = 5), cfP_5, (pI_o (80 + 1) (by decide)).1, (pI_o (80 + 12) (by decide)).1]
  refine ⟨a, b, c, d, ?_, ?_, fun t t1 t2 => ?_⟩
  · rw [pI_1, if_pos rfl, if_neg (by decide)]; exact e
  · rw [pI_1, if_pos rfl, if_pos rfl]
  · rw [cfP_n W x (by omega : ¬ 10 + t = 5)]; exact g t t1 t2
-- wrong guesses with other parts: the reference's side, from any laid memory whose settings are told but for the parts
theorem wrongWithM (hM : JC S M) (hp : pgS (S.1 0) = true) {x : Nat} (hx : x < 8) {N : Mem} (hL : LyM (S.1 0) 80 N) (hK : KM (cfW (S.1 0)) 80 N) (hz : GZ (vM 80 N)) : ∃ v M1 M' N', fX9_setRivalBy 0 (nI x) M = some M1 ∧ fX9_rivalWrongs 0 M1 = some (nI v, M') ∧ fX10_wrongWith 80 (nI x) N = some (nI v, N') ∧ v ≤ 240 ∧ JC S M' ∧ FrCl M M' ∧ FrK 80 N N' ∧ GZ (vM 80 N') ∧ LyM (S.1 0) 80 N' := by
  have hH := hM.w.2.1 hp
  have hl := all_len hM.w.1
  have hc := cfP_ok hH hx
  obtain ⟨M1, e1, g1, j1, f1⟩ := setByX (x := x) hM hp
  have fz : FrK 80 N (pI N 80 25 (nI x)) := ⟨fun c a _ => (pI_o c a).1, fun k a _ => by rw [pI_1, if_pos rfl, if_neg (by omega)], fun _ _ _ => rfl⟩
  obtain ⟨N', e2, l2, r2, z2, f2⟩ := playCf hM.w hc (N := pI N 80 25 (nI x)) (hL.mv (fun k a b => by rw [pI_1, if_pos rfl, if_neg (by omega)]) (fun c a b => (pI_o _ (by omega)).1)) (byKM hH hK x) (vM_fr (fun c a b => (pI_o _ (by omega)).1) hz)
  obtain ⟨v, M', a1, a2, a3, a4, a5⟩ := l_rw hc (allS (S.1 0)).length 0 LF 0 M1 N' (by omega) (by unfold LF; omega) j1 (by rw [gA_0]; exact g1) l2 r2
  refine ⟨v, M1, M', N', e1, a1, ?_, by omega, a4, f1.tr a5, fz.tr f2.k, z2, l2⟩
  unfold fX10_wrongWith fX10_playBy fX10_wrongBy
  rw [show (pI N 80 25 (nI x)).1 80 23 = nI (allS (S.1 0)).length by rw [pI_1, if_pos rfl, if_neg (by decide)]; exact hL.2.2.2.2.1, e2, bV_s, bV_s, l2.2.2.2.2.1, show fX10_wrongBy_4 LF 80 (nI (allS (S.1 0)).length) 0 0 N' = _ from a2, bI_s]
theorem m_by (x : Int32) : Eq2 S (fX9_by 0 x) (fX10_by 80 x) := by
  intro M N hM hN
  unfold fX9_by fX10_by
  obtain ⟨N1, e1, l1, k1, f1, c1, o1, m1⟩ := laysM (o := 80) hN.w.1 rfl hN.1.2.1
  have z1 : GZ (vM 80 N1) := by rw [vM_mv c1 o1]; exact hN.1.2.2
  have j1 : JR S N1 := hN.j f1.j z1
  rw [toldX hM, bI_s, e1, bI_s]
  by_cases hp : pgS (S.1 0) = true
  · rw [wif_t hp, wif_t hp, wX x 0 7 0 7 rfl rfl, bI_s, wM x 0 7 0 7 rfl rfl, bI_s]
    by_cases hx : inS x 0 7 = true
    · obtain ⟨k, hk, ek⟩ := in_n (n := 7) (by omega) hx
      subst ek
      obtain ⟨v, M1, M', N', a1, a2, a3, a4, a5, a6, a7, a8, a9⟩ := wrongWithM hM hp (show k < 8 by omega) l1 (k1 (hM.w.2.1 hp)) z1
      rw [wif_t hx, wif_t hx, a1, bV_s, a2, bI_s, a3, bI_s]
      exact ⟨_, M', N', S, rfl, rfl, a5, j1.j a7.j a8, a6, (f1.j.tr a7.j).rfr⟩
    · rw [wif_f hx, wif_f hx]
      exact ⟨_, M, N1, S, rfl, rfl, hM, j1, FrCl.rf, f1.j.rfr⟩
  · rw [wif_f hp, wif_f hp]
    exact ⟨_, M, N1, S, rfl, rfl, hM, j1, FrCl.rf, f1.j.rfr⟩
end Rival
