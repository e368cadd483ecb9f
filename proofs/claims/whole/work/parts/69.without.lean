/-! Public method: without. -/
section Without
variable {S : St} {M N : Mem} {W : Wd}
def cfT (W : Wd) (x : Nat) : Cfg := fun k => if k = 4 then x else cfW W k
theorem cfT_n (W : Wd) (x : Nat) {k : Nat} (h : ¬ k = 4) : cfT W x k = cfW W k := by unfold cfT; rw [if_neg h]
theorem cfT_4 (W : Wd) (x : Nat) : cfT W x 4 = x := by unfold cfT; rw [if_pos rfl]
theorem cfT_ok (hH : HdOk W) {x : Nat} (hx : x ≤ 5) : CfgOk (cfT W x) := by
  obtain ⟨a, b, c, d, e, f, g⟩ := hH.2.2
  unfold CfgOk
  rw [cfT_n W x (by omega : ¬ 0 = 4), cfT_n W x (by omega : ¬ 1 = 4), cfT_n W x (by omega : ¬ 2 = 4), cfT_n W x (by omega : ¬ 3 = 4), cfT_n W x (by omega : ¬ 5 = 4), cfT_4]
  refine ⟨a, b, c, d, hx, f, fun t t1 t2 => ?_⟩
  rw [cfT_n W x (by omega : ¬ 10 + t = 4)]; exact g t t1 t2
theorem setWithX (hM : JC S M) (hp : pgS (S.1 0) = true) {x : Nat} (h1 : 1 ≤ x) : ∃ M', fX9_setRivalWithout 0 (nI x) M = some M' ∧ GX (cfT (S.1 0) x) g0S 0 58 M' ∧ JC S M' ∧ FrCl M M' := by
  unfold fX9_setRivalWithout
  simp only [Nat.zero_add]
  obtain ⟨M1, e1, g1, v1, m1, f1⟩ := setAsX (o := 58) (q := 9) (M := M) rfl (by omega) hM.w.1 hM.1.2.1 hM.2.1.2.2
  rw [e1, bV_s]
  have g := g1 (hM.w.2.1 hp)
  have fz : FrX 58 M (pI M1 (58 + 1) 4 (nI x)) := f1.tr (FrX.pI (by omega) (by omega))
  have w : ∀ k, ¬ k = 4 → (pI M1 (58 + 1) 4 (nI x)).1 (58 + 1) k = M1.1 (58 + 1) k := fun k hk => by rw [pI_1, if_pos rfl, if_neg hk]
  have vz : vX 58 (pI M1 (58 + 1) 4 (nI x)) = vX 58 M1 := by
    funext i
    unfold vX
    split <;> first | rfl | (rw [(pI_o _ (by decide)).1]) | (funext _; exact w _ (by decide))
  refine ⟨_, rfl, ⟨?_, ?_, by rw [vz]; exact v1, g.2.2.2⟩, hM.rv fz (by rw [vz, v1]; exact g0_z), fz.cl (by omega)⟩
  · obtain ⟨k0, k1, k2, k3, k4, k5⟩ := g.1
    unfold KT outX
    rw [cfT_4, w 0 (by decide), w 1 (by decide), w 2 (by decide), w 3 (by decide), (pI_o (58 + 1 + 1) (by decide)).1, cfT_n _ x (by omega : ¬ 0 = 4), cfT_n _ x (by omega : ¬ 1 = 4), cfT_n _ x (by omega : ¬ 2 = 4), cfT_n _ x (by omega : ¬ 3 = 4)]
    refine ⟨k0, k1, k2, k3, ?_, fun t t1 t2 => ?_⟩
    · rw [if_neg (by omega), pI_1, if_pos rfl, if_pos rfl]
    · rw [k5 t t1 t2, cfT_n _ x (by omega : ¬ 10 + t = 4)]
  · rw [(pI_o 58 (by decide)).1, cfT_n _ x (by omega : ¬ 5 = 4)]; exact g.2.1
theorem withKM {N : Mem} (hK : KM (cfW W) 80 N) (x : Nat) : KM (cfT W x) 80 (pI N 80 26 (nI x)) := by
  obtain ⟨a, b, c, d, e, f, g⟩ := hK
  unfold KM
  rw [cfT_n W x (by omega : ¬ 0 = 4), cfT_n W x (by omega : ¬ 1 = 4), cfT_n W x (by omega : ¬ 2 = 4), cfT_n W x (by omega : ¬ 3 = 4), cfT_n W x (by omega : ¬ 5 = 4), cfT_4, (pI_o (80 + 1) (by decide)).1, (pI_o (80 + 12) (by decide)).1]
  refine ⟨a, b, c, d, ?_, ?_, fun t t1 t2 => ?_⟩
  · rw [pI_1, if_pos rfl, if_pos rfl]
  · rw [pI_1, if_pos rfl, if_neg (by decide)]; exact f
  · rw [cfT_n W x (by omega : ¬ 10 + t = 4)]; exact g t t1 t2
theorem wrongOutM (hM : JC S M) (hp : pgS (S.1 0) = true) {x : Nat} (h1 : 1 ≤ x) (hx : x ≤ 5) {N : Mem} (hL : LyM (S.1 0) 80 N) (hw : N.1 81 = S.1 0) (hz : GZ (vM 80 N)) : ∃ v M1 M' N', fX9_setRivalWithout 0 (nI x) M = some M1 ∧ fX9_rivalWrongs 0 M1 = some (nI v, M') ∧ fX10_wrongWithout 80 (nI x) N = some (nI v, N') ∧ v ≤ 240 ∧ JC S M' ∧ FrCl M M' ∧ FrK 80 N N' ∧ GZ (vM 80 N') ∧ LyM (S.1 0) 80 N' := by
  have hH := hM.w.2.1 hp
  have hl := all_len hM.w.1
  have hc := cfT_ok hH hx
  obtain ⟨M1, e1, g1, j1, f1⟩ := setWithX (x := x) hM hp h1
  obtain ⟨N1, t1, t2, t3, t4, t5, t6⟩ := toldM (o := 80) hM.w.1 hw
  have L1 : LyM (S.1 0) 80 N1 := hL.mv (fun k a b => t6.2.1 k (by omega)) (fun c a b => t6.1 _ (by omega) (by omega))
  have z1 : GZ (vM 80 N1) := vM_fr (fun c a b => t6.1 _ (by omega) (by omega)) hz
  have fz : FrK 80 N1 (pI N1 80 26 (nI x)) := ⟨fun c a _ => (pI_o c a).1, fun k a _ => by rw [pI_1, if_pos rfl, if_neg (by omega)], fun _ _ _ => rfl⟩
  obtain ⟨N', e2, l2, r2, z2, f2⟩ := playCf hM.w hc (N := pI N1 80 26 (nI x)) (L1.mv (fun k a b => by rw [pI_1, if_pos rfl, if_neg (by omega)]) (fun c a b => (pI_o _ (by omega)).1)) (withKM (t2 hH) x) (vM_fr (fun c a b => (pI_o _ (by omega)).1) z1)
  obtain ⟨v, M', a1, a2, a3, a4, a5⟩ := l_rw hc (allS (S.1 0)).length 0 LF 0 M1 N' (by omega) (by unfold LF; omega) j1 (by rw [gA_0]; exact g1) l2 r2
  refine ⟨v, M1, M', N', e1, a1, ?_, by omega, a4, f1.tr a5, (t6.k.tr fz).tr f2.k, z2, l2⟩
  unfold fX10_wrongWithout fX10_wrongBy
  rw [t1, bV_s, show (pI N1 80 26 (nI x)).1 80 23 = nI (allS (S.1 0)).length by rw [pI_1, if_pos rfl, if_neg (by decide)]; exact L1.2.2.2.2.1, e2, bV_s, l2.2.2.2.2.1, show fX10_wrongBy_4 LF 80 (nI (allS (S.1 0)).length) 0 0 N' = _ from a2, bI_s]
theorem m_without (x : Int32) : Eq2 S (fX9_without 0 x) (fX10_without 80 x) := by
  intro M N hM hN
  unfold fX9_without fX10_without
  obtain ⟨N1, e1, l1, k1, f1, c1, o1, m1⟩ := laysM (o := 80) hN.w.1 rfl hN.1.2.1
  have z1 : GZ (vM 80 N1) := by rw [vM_mv c1 o1]; exact hN.1.2.2
  have j1 : JR S N1 := hN.j f1.j z1
  rw [tabX' hM, bI_s, e1, bI_s]
  by_cases hp : pgS (S.1 0) = true
  · rw [wif_t hp, tabM' j1, bI_s]
    by_cases hx : inS x 1 (nI (nT (S.1 0))) = true
    · have h5 := hM.w.1.1.2
      obtain ⟨t, t1, t2, et⟩ := in_1 (by omega) hx
      subst et
      obtain ⟨v, M1, M', N', a1, a2, a3, a4, a5, a6, a7, a8, a9⟩ := wrongOutM hM hp t1 (by omega) l1 j1.1.2.1 z1
      rw [wif_t hx, wif_t hx, a1, bV_s, a2, bI_s, a3, bI_s]
      exact ⟨_, M', N', S, rfl, rfl, a5, j1.j a7.j a8, a6, (f1.j.tr a7.j).rfr⟩
    · rw [wif_f hx, wif_f hx]
      exact ⟨_, M, N1, S, rfl, rfl, hM, j1, FrCl.rf, f1.j.rfr⟩
  · have hp' : pgS (S.1 0) = false := by simpa using hp
    have hx : ¬ inS x 1 (nI (nT (S.1 0))) = true := by
      intro z
      rw [hM.w.2.2.2.2.2 hp'] at z
      obtain ⟨t, t1, t2, -⟩ := in_1 (n := 0) (by omega) z
      omega
    rw [wif_f hp, wif_f hx]
    exact ⟨_, M, N1, S, rfl, rfl, hM, j1, FrCl.rf, f1.j.rfr⟩
end Without
