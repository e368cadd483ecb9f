/-! Public method: ideal. -/
section Ideal
variable {S : St} {M N : Mem} {W : Wd}
def Kx (W : Wd) (N : Mem) : Prop := ∀ x, KM (cfP W x) 80 (pI N 80 25 (nI x))
theorem Kx.mv {N' : Mem} (h : Kx W N) (h1 : N'.1 81 = N.1 81) (h2 : N'.1 92 = N.1 92) (h3 : N'.1 80 26 = N.1 80 26) : Kx W N' := by
  intro x
  obtain ⟨a, b, c, d, e, f, g⟩ := h x
  have p : ∀ (X : Mem), (pI X 80 25 (nI x)).1 (80 + 1) = X.1 81 := fun X => (pI_o (80 + 1) (by decide)).1
  have q : ∀ (X : Mem), (pI X 80 25 (nI x)).1 (80 + 12) = X.1 92 := fun X => (pI_o (80 + 12) (by decide)).1
  have r : ∀ (X : Mem), (pI X 80 25 (nI x)).1 80 26 = X.1 80 26 := fun X => by rw [pI_1, if_pos rfl, if_neg (by decide)]
  rw [p] at a b c d
  rw [r] at e
  unfold KM
  rw [p, q, r, h1, h2, h3]
  refine ⟨a, b, c, d, e, by rw [pI_1, if_pos rfl, if_pos rfl, cfP_5], fun t t1 t2 => ?_⟩
  have := g t t1 t2
  rw [q] at this
  exact this
theorem wrongWithK (hM : JC S M) (hp : pgS (S.1 0) = true) {x : Nat} (hx : x < 8) {N : Mem} (hL : LyM (S.1 0) 80 N) (hK : Kx (S.1 0) N) (hz : GZ (vM 80 N)) : ∃ v M1 M' N', fX9_setRivalBy 0 (nI x) M = some M1 ∧ fX9_rivalWrongs 0 M1 = some (nI v, M') ∧ fX10_wrongWith 80 (nI x) N = some (nI v, N') ∧ v ≤ 240 ∧ JC S M' ∧ FrCl M M' ∧ FrK 80 N N' ∧ GZ (vM 80 N') ∧ LyM (S.1 0) 80 N' ∧ Kx (S.1 0) N' := by
  have hH := hM.w.2.1 hp
  have hl := all_len hM.w.1
  have hc := cfP_ok hH hx
  obtain ⟨M1, e1, g1, j1, f1⟩ := setByX (x := x) hM hp
  have fz : FrK 80 N (pI N 80 25 (nI x)) := ⟨fun c a _ => (pI_o c a).1, fun k a _ => by rw [pI_1, if_pos rfl, if_neg (by omega)], fun _ _ _ => rfl⟩
  obtain ⟨N', e2, l2, r2, z2, f2⟩ := playCf hM.w hc (N := pI N 80 25 (nI x)) (hL.mv (fun k a b => by rw [pI_1, if_pos rfl, if_neg (by omega)]) (fun c a b => (pI_o _ (by omega)).1)) (hK x) (vM_fr (fun c a b => (pI_o _ (by omega)).1) hz)
  obtain ⟨v, M', a1, a2, a3, a4, a5⟩ := l_rw hc (allS (S.1 0)).length 0 LF 0 M1 N' (by omega) (by unfold LF; omega) j1 (by rw [gA_0]; exact g1) l2 r2
  refine ⟨v, M1, M', N', e1, a1, ?_, by omega, a4, f1.tr a5, fz.tr f2.k, z2, l2, hK.mv ?_ ?_ ?_⟩
  · unfold fX10_wrongWith fX10_playBy fX10_wrongBy
    rw [show (pI N 80 25 (nI x)).1 80 23 = nI (allS (S.1 0)).length by rw [pI_1, if_pos rfl, if_neg (by decide)]; exact hL.2.2.2.2.1, e2, bV_s, bV_s, l2.2.2.2.2.1, show fX10_wrongBy_4 LF 80 (nI (allS (S.1 0)).length) 0 0 N' = _ from a2, bI_s]
  · rw [f2.1 81 (by decide) (by decide), (pI_o 81 (by decide)).1]
  · rw [f2.1 92 (by decide) (by decide), (pI_o 92 (by decide)).1]
  · rw [f2.2.1 26 (by decide), pI_1, if_pos rfl, if_neg (by decide)]
theorem l_ideal (hp : pgS (S.1 0) = true) : ∀ (m x f f' : Nat) (a w : Int32) (M N : Mem), x + m = 8 → m < f → m < f' → JC S M → LyM (S.1 0) 80 N → Kx (S.1 0) N → GZ (vM 80 N) → ∃ v M' N', fX9_ideal_18 f 0 a w (nI x) M = some (v, M') ∧ fX10_ideal_20 f' 80 a w (nI x) N = some (v, N') ∧ JC S M' ∧ FrCl M M' ∧ FrK 80 N N' ∧ GZ (vM 80 N') := by
  intro m
  induction m with
  | zero =>
    intro x f f' a w M N hm hf hf' hM hL hK hz
    cases f with
    | zero => omega
    | succ f =>
    cases f' with
    | zero => omega
    | succ f' =>
      unfold fX9_ideal_18 fX10_ideal_20
      rw [if_pos (show (8 : Int32) ≤ nI x from nI_le (a := 8) (by omega) (by omega)), if_pos (show (8 : Int32) ≤ nI x from nI_le (a := 8) (by omega) (by omega))]
      exact ⟨a, M, N, rfl, rfl, hM, FrCl.rf, FrK.rf, hz⟩
  | succ m ih =>
    intro x f f' a w M N hm hf hf' hM hL hK hz
    cases f with
    | zero => omega
    | succ f =>
    cases f' with
    | zero => omega
    | succ f' =>
      obtain ⟨v, M1, M', N', e1, e2, e3, e4, e5, e6, e7, e8, e9, e10⟩ := wrongWithK hM hp (show x < 8 by omega) hL hK hz
      unfold fX9_ideal_18 fX10_ideal_20 fX9_ideal_46 fX10_ideal_47
      rw [if_neg (show ¬ (8 : Int32) ≤ nI x from nI_ge (b := 8) (by omega) (by omega)), if_neg (show ¬ (8 : Int32) ≤ nI x from nI_ge (b := 8) (by omega) (by omega)), e1, bV_s, e2, bI_s, e3, bI_s, nI_1]
      by_cases g : w ≤ nI v
      · have g2 : ¬ nI v < w := by rw [fa_le] at g; rw [fa_lt]; omega
        rw [if_pos g, if_neg g2]
        obtain ⟨u, M2, N2, b1, b2, b3, b4, b5, b6⟩ := ih (x + 1) f f' a w M' N' (by omega) (by omega) (by omega) e5 e9 e10 e8
        exact ⟨u, M2, N2, b1, b2, b3, e6.tr b4, e7.tr b5, b6⟩
      · have g2 : nI v < w := by rw [fa_le] at g; rw [fa_lt]; omega
        rw [if_neg g, if_pos g2]
        obtain ⟨u, M2, N2, b1, b2, b3, b4, b5, b6⟩ := ih (x + 1) f f' (nI x) (nI v) M' N' (by omega) (by omega) (by omega) e5 e9 e10 e8
        exact ⟨u, M2, N2, b1, b2, b3, e6.tr b4, e7.tr b5, b6⟩
theorem m_ideal : Eq2 S (fX9_ideal 0) (fX10_ideal 80) := by
  intro M N hM hN
  unfold fX9_ideal fX10_ideal
  obtain ⟨N1, e1, l1, k1, f1, c1, o1, m1⟩ := laysM (o := 80) hN.w.1 rfl hN.1.2.1
  have z1 : GZ (vM 80 N1) := by rw [vM_mv c1 o1]; exact hN.1.2.2
  have j1 : JR S N1 := hN.j f1.j z1
  rw [toldX hM, bI_s, e1, bI_s]
  by_cases hp : pgS (S.1 0) = true
  · have hH := hM.w.2.1 hp
    obtain ⟨v, M1, M', N', a1, a2, a3, a4, a5, a6, a7, a8, a9, a10⟩ := wrongWithK hM hp (show 0 < 8 by omega) l1 (fun x => byKM hH (k1 hH) x) z1
    obtain ⟨u, M2, N2, b1, b2, b3, b4, b5, b6⟩ := l_ideal hp 7 1 99999 LF (nI 0) (nI v) M' N' (by omega) (by omega) (by unfold LF; omega) a5 a9 a10 a8
    have e0 : fX9_ideal_18 LF 0 (-1) 241 0 M = fX9_ideal_18 99999 0 (nI 0) (nI v) (nI 1) M' := by
      rw [show fX9_ideal_18 LF 0 (-1) 241 0 M = (if (8 : Int32) ≤ 0 then some (-1, M) else bV (fX9_setRivalBy 0 0 M) fun M1 => bI (fX9_rivalWrongs 0 M1) fun r3 M2 => if (241 : Int32) ≤ r3 then fX9_ideal_46 (fX9_ideal_18 99999) 0 (-1) 241 0 M2 else fX9_ideal_46 (fX9_ideal_18 99999) 0 0 r3 0 M2) from rfl, if_neg (by decide), show fX9_setRivalBy 0 0 M = _ from a1, bV_s, a2, bI_s, if_neg (show ¬ (241 : Int32) ≤ nI v from nI_ge (b := 241) (by omega) (by omega))]
      rfl
    rw [wif_t hp, wif_t hp, e0, b1, show fX10_wrongWith 80 0 N1 = _ from a3, bI_s]
    exact ⟨u, M2, N2, S, rfl, b2, b3, j1.j (a7.j.tr b5.j) b6, a6.tr b4, (f1.j.tr (a7.j.tr b5.j)).rfr⟩
  · rw [wif_f hp, wif_f hp]
    exact ⟨_, M, N1, S, rfl, rfl, hM, j1, FrCl.rf, f1.j.rfr⟩
end Ideal
