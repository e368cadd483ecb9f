/-! Public methods, both sides: those that speak of a moment. -/
section Meth3
variable {S : St} {M N : Mem}
theorem JC.own (h : JC S M) {m : Nat} {M' : Mem} (hm : m ≤ (allS (S.1 0)).length) (f : FrX 41 M M') (g : GX (cfW (S.1 0)) (gA (cfW (S.1 0)) ((pl (allS (S.1 0))).take m)).1 (gA (cfW (S.1 0)) ((pl (allS (S.1 0))).take m)).2 41 M') (h5 : M'.1 41 5 = nI m) (hp : pgS (S.1 0) = true) : JC S M' := by
  have hl := all_len h.w.1
  obtain ⟨a, b, c, d⟩ := h.1.2.2
  refine h.ow (fun c x y => f c (by omega)) ⟨fun _ => ⟨?_, ⟨g.1, g.2.1⟩, m, by omega, h5, fun _ => g⟩, ?_, ?_, ?_⟩ ?_ (by rw [g.2.2.1]; exact (gA_ok (h.w.2.1 hp).2.2 _).2.1)
  · have r := (a hp).1
    unfold RunX RxS Reg at *
    rw [(f 35 (by omega)).1, (f 36 (by omega)).1, (f 37 (by omega)).1]; exact r
  · unfold TrX at *
    rw [(f 39 (by omega)).1, (f 40 (by omega)).1]; exact b
  · rw [(f 39 (by omega)).1]; exact c
  · unfold FcX at *
    rw [(f 40 (by omega)).1]; exact d
  · have r := h.2.1.1
    unfold Rx0 at *
    rw [(f 36 (by omega)).1, (f 5 (by omega)).1, (f 37 (by omega)).1]; exact r
theorem FrX.cl {A B : Mem} {o : Nat} (ho : o + 17 ≤ 80) (h : FrX o A B) : FrCl A B := fun c hc => h c (by omega)
theorem mom (hM : JC S M) (hN : JR S N) (x : Int32) : ∃ N1 b, fX10_asksAt 80 x N = some (wkI b, N1) ∧ JR S N1 ∧ FrJ N N1 ∧ fX9_isMoment 0 x M = some (wkI b, M) ∧ (b = true → pgS (S.1 0) = true ∧ CfgOk (cfW (S.1 0)) ∧ ∃ m M1, m ≤ (allS (S.1 0)).length ∧ GM (cfW (S.1 0)) (gA (cfW (S.1 0)) ((pl (allS (S.1 0))).take m)).1 (gA (cfW (S.1 0)) ((pl (allS (S.1 0))).take m)).2 80 N1 ∧ KM (cfW (S.1 0)) 80 N1 ∧ fX9_goTo 0 x M = some M1 ∧ GX (cfW (S.1 0)) (gA (cfW (S.1 0)) ((pl (allS (S.1 0))).take m)).1 (gA (cfW (S.1 0)) ((pl (allS (S.1 0))).take m)).2 41 M1 ∧ M1.1 41 5 = nI m ∧ JC S M1 ∧ FrCl M M1 ∧ vX 41 M1 = vM 80 N1) := by
  obtain ⟨N1, e1, a1, j1, f1⟩ := hN.asksAt x
  have hl := all_len hM.w.1
  refine ⟨N1, _, e1, j1, f1, momX hM x, fun hb => ?_⟩
  rw [Bool.and_eq_true] at hb
  obtain ⟨hp, hx⟩ := hb
  obtain ⟨m, hm, ex⟩ := in_n (by omega) hx
  obtain ⟨M1, e2, g2, h5, f2, -, -⟩ := goToX hM.w hp hm hM.1.2.2 hM.2.1.2.1
  have ak := a1 hp m ex hm
  exact ⟨hp, (hM.w.2.1 hp).2.2, m, M1, hm, ak.2.2.1, ak.2.1, by rw [ex]; exact e2, g2, h5, hM.own hm f2 g2 h5 hp, f2.cl (by omega), g2.2.2.1.trans ak.2.2.1.2.1.symm⟩
theorem lN_32 (n : Nat) : (lN n).toInt32 = nI n := by
  apply i32_ext
  show ((lN n).toBitVec).signExtend 32 = _
  rw [lN_bv', nI_bv]
  apply BitVec.eq_of_toNat_eq
  rw [BitVec.signExtend_eq_setWidth_of_le _ (by decide)]
  simp [BitVec.toNat_setWidth, BitVec.toNat_ofNat]
theorem m_history (x y : Int32) : Eq2 S (fX9_history 0 x y) (fX10_history 80 x y) := by
  intro M N hM hN
  obtain ⟨N1, b, e1, j1, f1, e2, h⟩ := mom hM hN x
  unfold fX9_history fX10_history
  rw [e2, bI_s, e1, bI_s]
  by_cases hb : b = true
  · obtain ⟨hp, hc, m, M1, hm, gm, km, e3, g3, h5, j3, f3, hv⟩ := h hb
    rw [wif_t hb, wif_t hb, wX y 0 30 0 30 rfl rfl, bI_s, wM y 0 30 0 30 rfl rfl, bI_s]
    by_cases hy : inS y 0 30 = true
    · obtain ⟨k, hk, ek⟩ := in_n (n := 30) (by omega) hy
      subst ek
      rw [wif_t hy, wif_t hy, e3, bV_s]
      unfold fX9_lowest
      obtain ⟨P, hP, eP, rP⟩ := g3.2.2.2
      rw [bI_s, low32 (by omega), show M1.2 (0 + 41) 4 = lN P from eP, show N1.2 80 41 = _ from gm.2.2.1, shl64 k (by omega), lN_mask, lN_32, lN_32, nI_mask, ← rP]
      refine ⟨_, M1, N1, S, rfl, ?_, j3, j1, f3, f1.rfr⟩
      rw [Nat.mod_mod_of_dvd P (Nat.pow_dvd_pow 2 (show k ≤ 40 by omega))]
    · rw [wif_f hy, wif_f hy]
      exact ⟨_, M, N1, S, rfl, rfl, hM, j1, FrCl.rf, f1.rfr⟩
  · rw [wif_f hb, wif_f hb]
    exact ⟨_, M, N1, S, rfl, rfl, hM, j1, FrCl.rf, f1.rfr⟩
theorem in_1 {x : Int32} {n : Nat} (hn : n < 2 ^ 31) (h : inS x 1 (nI n) = true) : ∃ m, 1 ≤ m ∧ m ≤ n ∧ x = nI m := by
  simp only [inS, decide_eq_true_eq] at h
  obtain ⟨h1, h2⟩ := h
  rw [fa_le, show (1 : Int32).toInt = 1 from rfl] at h1
  rw [fa_le, nI_toInt hn] at h2
  refine ⟨x.toInt.toNat, by omega, by omega, ?_⟩
  apply Int32.toInt_inj.mp
  rw [nI_toInt (by omega)]; omega
theorem m_fold (x y z : Int32) : Eq2 S (fX9_fold 0 x y z) (fX10_fold 80 x y z) := by
  intro M N hM hN
  obtain ⟨N1, b, e1, j1, f1, e2, h⟩ := mom hM hN x
  unfold fX9_fold fX10_fold
  rw [e2, bI_s, e1, bI_s]
  by_cases hb : b = true
  · obtain ⟨hp, hc, m, M1, hm, gm, km, e3, g3, h5, j3, f3, hv⟩ := h hb
    rw [wif_t hb, wif_t hb, wX y 1 40 1 40 rfl rfl, bI_s, wM y 1 40 1 40 rfl rfl, bI_s]
    by_cases hy : inS y 1 40 = true
    · rw [wif_t hy, wif_t hy, wX z 1 10 1 10 rfl rfl, bI_s, wM z 1 10 1 10 rfl rfl, bI_s]
      by_cases hz : inS z 1 10 = true
      · obtain ⟨k, hk0, hk, ek⟩ := in_1 (n := 40) (by omega) hy
        obtain ⟨d, hd0, hd, ed⟩ := in_1 (n := 10) (by omega) hz
        subst ek
        subst ed
        obtain ⟨P, hP, eP, rP⟩ := g3.2.2.2
        have hp40 := gm.2.2.2
        rw [wif_t hz, wif_t hz, e3, bV_s, show M1.2 (0 + 41) 4 = lN P from eP, fold_X P k d hP (by omega) (by omega) (by omega), bI_s, fold_M 80 N1 _ k d gm.2.2.1 (by omega) (by omega) (by omega) (by omega), bI_s, ← rP, FD_mod P d (show k ≤ 40 by omega)]
        exact ⟨_, M1, N1, S, rfl, rfl, j3, j1, f3, f1.rfr⟩
      · rw [wif_f hz, wif_f hz]
        exact ⟨_, M, N1, S, rfl, rfl, hM, j1, FrCl.rf, f1.rfr⟩
    · rw [wif_f hy, wif_f hy]
      exact ⟨_, M, N1, S, rfl, rfl, hM, j1, FrCl.rf, f1.rfr⟩
  · rw [wif_f hb, wif_f hb]
    exact ⟨_, M, N1, S, rfl, rfl, hM, j1, FrCl.rf, f1.rfr⟩
theorem tabX' (hM : JC S M) (x : Int32) : fX9_isTable 0 x M = some (wkI (inS x 1 (nI (nT (S.1 0)))), M) := by
  unfold fX9_isTable
  simp only [Nat.zero_add]
  rw [hM.1.2.1.1.2.1, hM.w.1.1.1, wX x 1 _ 1 _ rfl rfl, bI_s, isB_wk, ck_t]
theorem tabM' (hN : JR S N) (x : Int32) : fX10_isTable 80 x N = some (wkI (inS x 1 (nI (nT (S.1 0)))), N) := by
  unfold fX10_isTable
  rw [tabsM hN.1.2.1, bI_s, hN.w.1.1.1, wM x 1 _ 1 _ rfl rfl, bI_s, isB_wk, ck_t]
theorem in_63 {x : Int32} (h : inS x 0 63 = true) : ∃ m, m < 64 ∧ x = nI m := by
  obtain ⟨m, hm, e⟩ := in_n (n := 63) (by omega) h
  exact ⟨m, by omega, e⟩
theorem m_index (x y z : Int32) : Eq2 S (fX9_index 0 x y z) (fX10_index 80 x y z) := by
  intro M N hM hN
  obtain ⟨N1, b, e1, j1, f1, e2, h⟩ := mom hM hN z
  unfold fX9_index fX10_index
  rw [e2, bI_s, e1, bI_s]
  by_cases hb : b = true
  · obtain ⟨hp, hc, m, M1, hm, gm, km, e3, g3, h5, j3, f3, hv⟩ := h hb
    rw [wif_t hb, wif_t hb, tabX' hM, bI_s, tabM' j1, bI_s]
    by_cases hx : inS x 1 (nI (nT (S.1 0))) = true
    · rw [wif_t hx, wif_t hx, adrX, bI_s, adrM, bI_s]
      by_cases hy : inS y 0 63 = true
      · obtain ⟨t, t1, t2, et⟩ := in_1 (by have := hM.w.1.1.2; omega) hx
        obtain ⟨a, ha, ea⟩ := in_63 hy
        subst et
        subst ea
        obtain ⟨P, hP, eP, rP⟩ := g3.2.2.2
        rw [wif_t hy, wif_t hy, e3, bV_s, show M1.2 (0 + 41) 4 = lN P from eP, show fX6_indexOf (0 + 41 + 1) (nI t) (nI a) (lN P) M1 = _ from ixX hc g3.1 t1 t2 ha hP, bI_s, ixM hc km gm.2.2.1 gm.2.2.2 t1 t2 ha, bI_s, rP]
        exact ⟨_, M1, N1, S, rfl, rfl, j3, j1, f3, f1.rfr⟩
      · rw [wif_f hy, wif_f hy]
        exact ⟨_, M, N1, S, rfl, rfl, hM, j1, FrCl.rf, f1.rfr⟩
    · rw [wif_f hx, wif_f hx]
      exact ⟨_, M, N1, S, rfl, rfl, hM, j1, FrCl.rf, f1.rfr⟩
  · rw [wif_f hb, wif_f hb]
    exact ⟨_, M, N1, S, rfl, rfl, hM, j1, FrCl.rf, f1.rfr⟩
theorem m_tag (x y z : Int32) : Eq2 S (fX9_tag 0 x y z) (fX10_tag 80 x y z) := by
  intro M N hM hN
  obtain ⟨N1, b, e1, j1, f1, e2, h⟩ := mom hM hN z
  unfold fX9_tag fX10_tag
  rw [e2, bI_s, e1, bI_s]
  by_cases hb : b = true
  · obtain ⟨hp, hc, m, M1, hm, gm, km, e3, g3, h5, j3, f3, hv⟩ := h hb
    rw [wif_t hb, wif_t hb, tabX' hM, bI_s, tabM' j1, bI_s]
    by_cases hx : inS x 1 (nI (nT (S.1 0))) = true
    · rw [wif_t hx, wif_t hx, adrX, bI_s, adrM, bI_s]
      by_cases hy : inS y 0 63 = true
      · obtain ⟨t, t1, t2, et⟩ := in_1 (by have := hM.w.1.1.2; omega) hx
        obtain ⟨a, ha, ea⟩ := in_63 hy
        subst et
        subst ea
        obtain ⟨P, hP, eP, rP⟩ := g3.2.2.2
        rw [wif_t hy, wif_t hy, e3, bV_s, show M1.2 (0 + 41) 4 = lN P from eP, show fX6_tagOf (0 + 41 + 1) (nI t) (nI a) (lN P) M1 = _ from tgX hc g3.1 t1 t2 ha hP, bI_s, tgM hc km gm.2.2.1 gm.2.2.2 t1 t2 ha, bI_s, rP]
        exact ⟨_, M1, N1, S, rfl, rfl, j3, j1, f3, f1.rfr⟩
      · rw [wif_f hy, wif_f hy]
        exact ⟨_, M, N1, S, rfl, rfl, hM, j1, FrCl.rf, f1.rfr⟩
    · rw [wif_f hx, wif_f hx]
      exact ⟨_, M, N1, S, rfl, rfl, hM, j1, FrCl.rf, f1.rfr⟩
  · rw [wif_f hb, wif_f hb]
    exact ⟨_, M, N1, S, rfl, rfl, hM, j1, FrCl.rf, f1.rfr⟩
-- asked at a moment
theorem askd (hM : JC S M) (hN : JR S N) (x y : Int32) : ∃ M1 N1 b, fX9_askedAt 0 x y M = some (wkI b, M1) ∧ fX10_asksOf 80 x y N = some (wkI b, N1) ∧ JC S M1 ∧ JR S N1 ∧ FrCl M M1 ∧ FrJ N N1 ∧ (b = true → ∃ cf g p a, AX cf g p a 41 M1 ∧ AM cf g p a 80 N1) := by
  obtain ⟨N1, b, e1, j1, f1, e2, h⟩ := mom hM hN y
  unfold fX9_askedAt fX10_asksOf
  rw [e2, bI_s, e1, bI_s]
  by_cases hb : b = true
  · obtain ⟨hp, hc, m, M1, hm, gm, km, e3, g3, h5, j3, f3, hv⟩ := h hb
    rw [wif_t hb, wif_t hb, adrX, bI_s, adrM, bI_s]
    by_cases hx : inS x 0 63 = true
    · obtain ⟨a, ha, ea⟩ := in_63 hx
      subst ea
      rw [wif_t hx, wif_t hx, e3, bV_s]
      obtain ⟨M2, e4, g4, a4, f4, m4⟩ := askX hc ha g3
      obtain ⟨N2, e5, q5, g5, a5⟩ := askM (o := 80) hc ha (gA_ok hc _).1 gm
      rw [show fX1_ask (0 + 41) (nI a) M1 = _ from e4, bI_s, e5, bV_s]
      refine ⟨M2, N2, true, rfl, rfl, j3.own hm f4 g4 (by rw [m4]; exact h5) hp, j1.j q5.fr.k.j ?_, f3.tr (f4.cl (by omega)), f1.tr q5.fr.k.j, fun _ => ⟨_, _, _, a, a4, a5⟩⟩
      rw [g5.2.1]; exact (gA_ok hc _).2.1
    · rw [wif_f hx, wif_f hx]
      exact ⟨M, N1, false, rfl, rfl, hM, j1, FrCl.rf, f1, fun z => by cases z⟩
  · rw [wif_f hb, wif_f hb]
    exact ⟨M, N1, false, rfl, rfl, hM, j1, FrCl.rf, f1, fun z => by cases z⟩
theorem m_provider (x y : Int32) : Eq2 S (fX9_provider 0 x y) (fX10_provider 80 x y) := by
  intro M N hM hN
  obtain ⟨M1, N1, b, e1, e2, j1, j2, f1, f2, h⟩ := askd hM hN x y
  unfold fX9_provider fX10_provider
  rw [e1, bI_s, e2, bI_s]
  by_cases hb : b = true
  · obtain ⟨cf, g, p, a, ax, am⟩ := h hb
    rw [wif_t hb, wif_t hb, show M1.1 (0 + 41 + 1) 15 = _ from ax.2.2.2.2.1, am.1.2.2.1]
    exact ⟨_, M1, N1, S, rfl, rfl, j1, j2, f1, f2.rfr⟩
  · rw [wif_f hb, wif_f hb]
    exact ⟨_, M1, N1, S, rfl, rfl, j1, j2, f1, f2.rfr⟩
theorem m_alternate (x y : Int32) : Eq2 S (fX9_alternate 0 x y) (fX10_alternate 80 x y) := by
  intro M N hM hN
  obtain ⟨M1, N1, b, e1, e2, j1, j2, f1, f2, h⟩ := askd hM hN x y
  unfold fX9_alternate fX10_alternate
  rw [e1, bI_s, e2, bI_s]
  by_cases hb : b = true
  · obtain ⟨cf, g, p, a, ax, am⟩ := h hb
    rw [wif_t hb, wif_t hb, show M1.1 (0 + 41 + 1) 16 = _ from ax.2.2.2.2.2.1, am.1.2.2.2.1]
    exact ⟨_, M1, N1, S, rfl, rfl, j1, j2, f1, f2.rfr⟩
  · rw [wif_f hb, wif_f hb]
    exact ⟨_, M1, N1, S, rfl, rfl, j1, j2, f1, f2.rfr⟩
theorem m_guess (x y : Int32) : Eq2 S (fX9_guess 0 x y) (fX10_guess 80 x y) := by
  intro M N hM hN
  obtain ⟨M1, N1, b, e1, e2, j1, j2, f1, f2, h⟩ := askd hM hN x y
  unfold fX9_guess fX10_guess
  rw [e1, bI_s, e2, bI_s]
  by_cases hb : b = true
  · obtain ⟨cf, g, p, a, ax, am⟩ := h hb
    rw [wif_t hb, wif_t hb, show M1.1 (0 + 41) 7 = _ from ax.2.1, am.2.2.2.2.2.2.1]
    exact ⟨_, M1, N1, S, rfl, rfl, j1, j2, f1, f2.rfr⟩
  · rw [wif_f hb, wif_f hb]
    exact ⟨_, M1, N1, S, rfl, rfl, j1, j2, f1, f2.rfr⟩
theorem m_adds (x y : Int32) : Eq2 S (fX9_adds 0 x y) (fX10_adds 80 x y) := by
  intro M N hM hN
  obtain ⟨M1, N1, b, e1, e2, j1, j2, f1, f2, h⟩ := askd hM hN x y
  unfold fX9_adds fX10_adds
  rw [e1, bI_s, e2, bI_s]
  by_cases hb : b = true
  · obtain ⟨cf, g, p, a, ax, am⟩ := h hb
    rw [wif_t hb, wif_t hb, show M1.1 (0 + 41 + 14) 4 = _ from ax.2.2.2.2.2.2.2.2.2.2.2.2, am.2.2.2.2.1]
    exact ⟨_, M1, N1, S, rfl, rfl, j1, j2, f1, f2.rfr⟩
  · rw [wif_f hb, wif_f hb]
    exact ⟨_, M1, N1, S, rfl, rfl, j1, j2, f1, f2.rfr⟩
end Meth3
