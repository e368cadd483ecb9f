/-! Public methods, both sides: meets. -/
section Meth9
variable {S : St} {M N : Mem} {W : Wd}
def wA (W : Wd) (v : Nat) : Wd := fun k => if k = 8 then nI (nA W + 1) else if k = 175 + nA W then nI v else W k
theorem wA_ag (W : Wd) (v : Nat) : Ag W (wA W v) := ⟨fun k hk => by unfold wA; rw [if_neg (by omega), if_neg (by omega)], by unfold wA; rw [if_neg (by omega), if_neg (by omega)], fun k h1 h2 => by unfold wA; rw [if_neg (by omega), if_neg (by omega)]⟩
theorem wA_n {v : Nat} (h : nA W < 40) : nA (wA W v) = nA W + 1 := by
  show tn (if 8 = 8 then nI (nA W + 1) else _) = _
  rw [if_pos rfl, tn_n (by omega)]
theorem wA_a {v i : Nat} (hi : i < nA W) : AA (wA W v) i = AA W i := by
  unfold AA wA; rw [if_neg (by omega), if_neg (by omega)]
theorem wA_b {v : Nat} (hv : v < 2 ^ 31) : AA (wA W v) (nA W) = v := by
  unfold AA wA; rw [if_neg (by omega), if_pos rfl, tn_n hv]
theorem wA_ok (hW : WOk W) (hp : pgS W = true) {v : Nat} (hv : v < 128) (hn : nA W < 40) : WOk (wA W v) := by
  have en := wA_n (W := W) (v := v) hn
  refine (wA_ag W v).w hW ⟨by rw [en]; exact if_pos rfl, by omega⟩ (fun i hi => ?_) (fun h => by rw [hp] at h; cases h) (fun k hk => ?_)
  · rw [en] at hi
    by_cases e : i = nA W
    · subst e
      rw [wA_b (by omega)]
      exact ⟨by unfold wA; rw [if_neg (by omega), if_pos rfl], hv⟩
    · rw [wA_a (by omega)]
      obtain ⟨a, b⟩ := hW.1.2.2.2.2 i (by omega)
      exact ⟨by unfold wA; rw [if_neg (by omega), if_neg (by omega)]; exact a, b⟩
  · unfold wA; rw [if_neg (by omega), if_neg (by omega)]; exact hW.2.2.2.1 k hk
theorem wA_all (hW : WOk W) {v : Nat} (hv : v < 128) (hn : nA W < 40) : allS (wA W v) = allS W ++ [(v / 2, nI (v % 2), -1)] := by
  unfold allS
  rw [(ag_nS (wA_ag W v) hW.1).2, wA_n hn, acS_s, wA_b (by omega), List.append_assoc]
  congr 1
  congr 1
  unfold acS
  apply List.map_congr_left
  intro i hi
  rw [wA_a (List.mem_range.mp hi)]
theorem addE {L : Nat} {x t s : Int32} (hL : L < 240) (h : M.1 39 1 = nI L) : fX8_add 39 x t s M = some (pI (pI (pI (pI M 40 (9 * L) x) 40 (9 * L + 1) t) 40 (9 * L + 8) s) 39 1 (nI (L + 1))) := by
  unfold fX8_add
  rw [h, if_pos (show nI L < (240 : Int32) from nI_lt (b := 240) hL (by omega)), show fX8_set 39 (nI L) 0 x M = _ from setT (j := 0) (n := 9 * L) (by omega) rfl M _, bV_s]
  have e1 : (pI M 40 (9 * L) x).1 39 1 = nI L := by rw [pI_1, if_neg (by decide)]; exact h
  rw [e1, show fX8_set 39 (nI L) 1 t _ = _ from setT (j := 1) (n := 9 * L + 1) (by omega) rfl _ _, bV_s]
  have e2 : (pI (pI M 40 (9 * L) x) 40 (9 * L + 1) t).1 39 1 = nI L := by rw [pI_1, if_neg (by decide)]; exact e1
  rw [e2, show fX8_set 39 (nI L) 8 s _ = _ from setT (j := 8) (n := 9 * L + 8) (by omega) rfl _ _, bV_s]
  have e3 : (pI (pI (pI M 40 (9 * L) x) 40 (9 * L + 1) t) 40 (9 * L + 8) s).1 39 1 = nI L := by rw [pI_1, if_neg (by decide)]; exact e2
  rw [e3, nI_1]
theorem fc_app (cf : Cfg) (l : BL) (z : Nat × Int32) {b : Nat} (hb : b < l.length) (k : Nat) : fcS cf (l ++ [z]) b k = fcS cf l b k := by
  have := fc_take cf (l ++ [z]) (L := l.length) hb k
  rw [List.take_left'  rfl] at this
  exact this.symm
theorem meetX (hM : JC S M) (hp : pgS (S.1 0) = true) {a t : Nat} (ha : a < 64) (ht : t < 2) (hn : nA (S.1 0) < 40) : ∃ M7 M8 M9, fX9_goTo 0 (nI (allS (S.1 0)).length) M = some M7 ∧ M7.1 9 8 = nI (nA (S.1 0)) ∧ fX8_add 39 (nI a) (nI t) (-1) (pI (pI M7 14 (nA (S.1 0)) (nI (2 * a + t))) 9 8 (nI (nA (S.1 0) + 1))) = some M8 ∧ fX9_record 0 (nI (allS (S.1 0)).length) M8 = some M9 ∧ JC (wdS S (wA (S.1 0) (2 * a + t))) M9 ∧ FrCl M M9 := by
  have hW := hM.w
  have hH := hW.2.1 hp
  have hl := all_len hW.1
  have hag := wA_ag (S.1 0) (2 * a + t)
  have hW' := wA_ok hW hp (v := 2 * a + t) (by omega) hn
  obtain ⟨M7, e7, g7, h5, f7, -, -⟩ := goToX hW hp (Nat.le_refl _) hM.1.2.2 hM.2.1.2.1
  have j7 : JC S M7 := hM.own (Nat.le_refl _) f7 g7 h5 hp
  have hn8 : M7.1 9 8 = nI (nA (S.1 0)) := by rw [j7.1.2.1.1.2.2]; exact hW.1.2.2.1.1
  obtain ⟨c1, c2, c3, c4⟩ := j7.1.2.2
  have hlen : (allS (S.1 0)).length < 240 := by
    have h1 := tr_len (S.1 0) (nS (S.1 0))
    have h2 := (nS_ok (S.1 0)).2.1
    unfold allS; rw [List.length_append, acS_len]; omega
  generalize hMa : pI (pI M7 14 (nA (S.1 0)) (nI (2 * a + t))) 9 8 (nI (nA (S.1 0) + 1)) = Ma
  have q : ∀ c, ¬ c = 9 → ¬ c = 14 → Ma.1 c = M7.1 c := fun c x y => by rw [← hMa, (pI_o c x).1, (pI_o c y).1]
  have q2 : Ma.2 = M7.2 := by rw [← hMa]; rfl
  have q9 : ∀ k, ¬ k = 8 → Ma.1 9 k = M7.1 9 k := fun k hk => by rw [← hMa, pI_1, if_pos rfl, if_neg hk, (pI_o 9 (by decide)).1]
  have q98 : Ma.1 9 8 = nI (nA (S.1 0) + 1) := by rw [← hMa, pI_1, if_pos rfl, if_pos rfl]
  have q14 : ∀ k, Ma.1 14 k = if k = nA (S.1 0) then nI (2 * a + t) else M7.1 14 k := fun k => by rw [← hMa, (pI_o 14 (by decide)).1, pI_1, if_pos rfl]
  have tA : TrX (allS (S.1 0)) Ma := by
    unfold TrX at *
    rw [q 39 (by decide) (by decide), q 40 (by decide) (by decide)]; exact c2
  have e8 := addE (M := Ma) (x := nI a) (t := nI t) (s := -1) hlen tA.1
  obtain ⟨M8', e8', t8, f8⟩ := addT (M := Ma) (a := a) (t := nI t) (s := -1) hlen tA
  rw [e8] at e8'
  have e8'' := Option.some.inj e8'
  generalize hM8 : pI (pI (pI (pI Ma 40 (9 * (allS (S.1 0)).length) (nI a)) 40 (9 * (allS (S.1 0)).length + 1) (nI t)) 40 (9 * (allS (S.1 0)).length + 8) (-1)) 39 1 (nI ((allS (S.1 0)).length + 1)) = M8 at e8 e8''
  subst e8''
  have p40 : ∀ j, j < 9 * (allS (S.1 0)).length → M8.1 40 j = M7.1 40 j := by
    intro j hj
    rw [← hM8, (pI_o 40 (by decide)).1, pI_1, if_pos rfl, if_neg (by omega), pI_1, if_pos rfl, if_neg (by omega), pI_1, if_pos rfl, if_neg (by omega), q 40 (by decide) (by decide)]
  have eall : allS (wA (S.1 0) (2 * a + t)) = allS (S.1 0) ++ [(a, nI t, -1)] := by
    rw [wA_all hW (by omega) hn, show (2 * a + t) / 2 = a by omega, show (2 * a + t) % 2 = t by omega]
  have epl : pl (allS (wA (S.1 0) (2 * a + t))) = pl (allS (S.1 0)) ++ [(a, nI t)] := by rw [eall]; unfold pl; rw [List.map_append]; rfl
  have elen : (allS (wA (S.1 0) (2 * a + t))).length = (allS (S.1 0)).length + 1 := by rw [eall, List.length_append]; rfl
  have ept : (pl (allS (wA (S.1 0) (2 * a + t)))).take (allS (S.1 0)).length = (pl (allS (S.1 0))).take (allS (S.1 0)).length := by
    rw [epl, List.take_left' (pl_len _), List.take_of_length_le (by rw [pl_len]; exact Nat.le_refl _)]
  rw [← eall] at t8
  have cfe := hag.cf
  have g8 : GX (cfW (wA (S.1 0) (2 * a + t))) (gA (cfW (wA (S.1 0) (2 * a + t))) ((pl (allS (wA (S.1 0) (2 * a + t)))).take (allS (S.1 0)).length)).1 (gA (cfW (wA (S.1 0) (2 * a + t))) ((pl (allS (wA (S.1 0) (2 * a + t)))).take (allS (S.1 0)).length)).2 41 M8 := by
    rw [cfe, ept]
    exact g7.fr (fun c x y => by rw [f8.1 c (by omega) (by omega), q c (by omega) (by omega)]) (by rw [f8.2.2, q2])
  obtain ⟨M9, e9, t9, g9, m9, f9, j9, k9⟩ := recordX (hW'.2.1 (by rw [hag.pg]; exact hp)).2.2 (all_len hW'.1) (all_ok hW'.1) (b := (allS (S.1 0)).length) (by rw [elen]; omega) t8 g8 (by rw [f8.1 41 (by decide) (by decide), q 41 (by decide) (by decide)]; exact h5)
  have w97 : ∀ c, ¬ (39 ≤ c ∧ c ≤ 57) → ¬ c = 9 → ¬ c = 14 → M9.1 c = M7.1 c := fun c x y z => by rw [(f9 c (by omega)).1, f8.1 c (by omega) (by omega), q c y z]
  have w972 : ∀ c, ¬ (39 ≤ c ∧ c ≤ 57) → M9.2 c = M7.2 c := fun c x => by rw [(f9 c (by omega)).2, f8.2.2, q2]
  have w9 : M9.1 9 = Ma.1 9 := by rw [(f9 9 (by omega)).1, f8.1 9 (by decide) (by decide)]
  have w14 : M9.1 14 = Ma.1 14 := by rw [(f9 14 (by omega)).1, f8.1 14 (by decide) (by decide)]
  have hO := hW.1.2.1.2
  refine ⟨M7, M8, M9, e7, hn8, by rw [hMa]; exact e8, e9, j7.wd hW' ?_ ⟨fun _ => ⟨?_, ⟨g9.1, g9.2.1⟩, (allS (S.1 0)).length + 1, by omega, m9, fun _ => g9⟩, t9, ?_, ?_⟩ ?_ ?_ (fun c x y z => ⟨w97 c (by omega) (by omega) (by omega), w972 c (by omega)⟩), (f7.cl (by omega)).tr (fun c hc => ⟨w97 c (by omega) (by omega) (by omega), w972 c (by omega)⟩)⟩
  · obtain ⟨t1, t2, t3, t4, t5⟩ := j7.1.2.1
    refine ⟨⟨?_, ?_, ?_⟩, ?_, ⟨?_, by rw [w97 _ (by decide) (by decide) (by decide)]; exact t3.2⟩, ⟨?_, ?_, ?_⟩, ?_⟩
    · rw [w9, q9 5 (by decide), hag.2.2 9 (by omega) (by omega)]; exact t1.1
    · rw [w9, q9 6 (by decide), hag.1 6 (by omega)]; exact t1.2.1
    · rw [w9, q98]; exact (if_pos rfl).symm
    · intro k hk; rw [w97 _ (by decide) (by decide) (by decide), hag.1 k (by omega)]; exact t2 k hk
    · intro u x y
      rw [hag.n.1] at y
      have := hW.1.1.2
      rw [w97 _ (by decide) (by decide) (by decide), hag.2.2 (9 + u) (by omega) (by omega)]; exact t3.1 u x y
    · rw [w9, q9 7 (by decide), hag.2.1]; exact t4.1
    · intro i hi
      rw [hag.n.2] at hi
      rw [w97 _ (by decide) (by decide) (by decide), hag.2.2 _ (by omega) (by omega)]; exact t4.2.1 i hi
    · intro i j hi hj
      rw [hag.n.2] at hi
      rw [w97 _ (by decide) (by decide) (by decide), hag.2.2 _ (by omega) (by omega)]; exact t4.2.2 i j hi hj
    · intro i hi
      rw [wA_n hn] at hi
      rw [show M9.1 (9 + 5) = Ma.1 14 from w14, q14]
      by_cases e : i = nA (S.1 0)
      · subst e
        rw [if_pos rfl]; unfold wA; rw [if_neg (by omega), if_pos rfl]
      · rw [if_neg e]; unfold wA; rw [if_neg (by omega), if_neg (by omega)]; exact t5 i (by omega)
  · have := hag.run hW.1 (c1 hp).1
    unfold RunX RxS Reg at *
    rw [w97 35 (by decide) (by decide) (by decide), w97 36 (by decide) (by decide) (by decide), w97 37 (by decide) (by decide) (by decide)]; exact this
  · rw [(f9 39 (by omega)).1, f8.2.1 2 (by decide), q 39 (by decide) (by decide), (ag_nS hag hW.1).2]; exact c3
  · intro b hb k k2 k7
    rw [elen] at hb
    by_cases e : b = (allS (S.1 0)).length
    · subst e; exact k9 k k2 k7
    · rw [j9 _ (by omega), p40 _ (by omega), cfe, epl, fc_app _ _ _ (by rw [pl_len]; omega)]
      exact c4 b (by omega) k k2 k7
  · have := j7.2.1.1
    unfold Rx0 at *
    rw [w97 36 (by decide) (by decide) (by decide), w97 5 (by decide) (by decide) (by decide), w97 37 (by decide) (by decide) (by decide)]; exact this
  · rw [g9.2.2.1]; exact (gA_ok (hW'.2.1 (by rw [hag.pg]; exact hp)).2.2 _).2.1
theorem m_meets (x y : Int32) : Eq2 S (fX9_meets 0 x y) (fX10_meets 80 x y) := by
  intro M N hM hN
  have hA := hM.w.1.2.2.1
  have hl := all_len hM.w.1
  unfold fX9_meets fX10_meets
  rw [toldX hM, bI_s, isPgM (o := 80) hN.1.2.1, bI_s]
  by_cases hp : pgS (S.1 0) = true
  · rw [wif_t hp, wif_t hp, adrX, bI_s, adrM, bI_s]
    by_cases hx : inS x 0 63 = true
    · rw [wif_t hx, wif_t hx, wX y 0 1 0 1 rfl rfl, bI_s, wM y 0 1 0 1 rfl rfl, bI_s]
      by_cases hy : inS y 0 1 = true
      · obtain ⟨a, ha, ea⟩ := in_63 hx
        obtain ⟨t, ht, et⟩ := in_n (n := 1) (by omega) hy
        subst ea
        subst et
        simp only [Nat.zero_add]
        rw [wif_t hy, wif_t hy, show ib (8 : Int32) 215 = true from rfl, ck_t, show tn (8 : Int32) = 8 from rfl, show N.1 (80 + 1) = S.1 0 from hN.1.2.1, hM.1.2.1.1.2.2, hA.1, hM.1.2.2.2.1.1]
        by_cases hn : nA (S.1 0) < 40
        · rw [if_pos (show nI (nA (S.1 0)) < (40 : Int32) from nI_lt (b := 40) hn (by omega)), if_neg (show ¬ nI (nA (S.1 0)) = (40 : Int32) from kE (n := 40) (by omega) (by omega) (by omega))]
          obtain ⟨M7, M8, M9, e7, n7, e8, e9, j9, f9⟩ := meetX hM hp ha (show t < 2 by omega) hn
          have hpg : pgS (wA (S.1 0) (2 * a + t)) = true := by rw [(wA_ag (S.1 0) (2 * a + t)).pg]; exact hp
          have elen : (allS (wA (S.1 0) (2 * a + t))).length = (allS (S.1 0)).length + 1 := by rw [wA_all hM.w (by omega) hn, List.length_append]; rfl
          have nw : N.1 81 8 = nI (nA (S.1 0)) := by rw [hN.1.2.1]; exact hA.1
          rw [e7, bV_s, n7, ib_n (show nA (S.1 0) < 40 from hn) (by omega), ck_t, tn_n (by omega), nI_2, nI_add, (pI_o (M := M7) (c := 9 + 5) (k := nA (S.1 0)) (v := nI (2 * a + t)) 9 (by decide)).1, n7, nI_1, show fX8_add 39 (nI a) (nI t) (-1) (pI (pI M7 (9 + 5) (nA (S.1 0)) (nI (2 * a + t))) 9 8 (nI (nA (S.1 0) + 1))) = _ from e8, bV_s, e9, bV_s]
          rw [ck_t, show (175 : Int32) + nI (nA (S.1 0)) = nI (175 + nA (S.1 0)) from nI_add 175 _, ib_n (show 175 + nA (S.1 0) < 215 by omega) (by omega), ck_t, ck_t, ck_t, tn_n (show 175 + nA (S.1 0) < 2 ^ 31 by omega), show (pI N (80 + 1) (175 + nA (S.1 0)) (nI (2 * a + t))).1 (80 + 1) 8 = nI (nA (S.1 0)) by rw [pI_1, if_pos rfl, if_neg (by omega)]; exact nw, nI_1]
          have jN : JR (wdS S (wA (S.1 0) (2 * a + t))) (pI (pI N (80 + 1) (175 + nA (S.1 0)) (nI (2 * a + t))) (80 + 1) 8 (nI (nA (S.1 0) + 1))) := by
            refine hN.wd (wA_ok hM.w hp (by omega) hn) ?_ (fun c h1 h2 => ?_)
            · funext k
              rw [pI_1, if_pos rfl, pI_1, if_pos rfl, hN.1.2.1]; rfl
            · exact ⟨((pI_o c h2).1).trans (pI_o c h2).1, rfl⟩
          obtain ⟨N1, e10, a10, j10, f10⟩ := jN.asks
          rw [e10, bI_s]
          have ak := a10 (by rw [wdS_0]; exact hpg)
          have tw := tw_of j9 ak rfl
          rw [wdS_0, elen] at tw
          rw [tw.2.2.1, show nI ((allS (S.1 0)).length + 1) - 1 = nI (allS (S.1 0)).length from pk_sub (a := (allS (S.1 0)).length + 1) (b := 1) (by omega), iwX tw (by omega), bI_s, iwM tw (by omega), bI_s]
          have fr : FrRf N N1 := FrRf.tr (fun c hc => ⟨((pI_o c (by omega)).1).trans (pI_o c (by omega)).1, rfl⟩) f10.rfr
          by_cases hw : wrB M9 (allS (S.1 0)).length = true
          · rw [wif_t hw, wif_t hw]
            exact ⟨_, M9, N1, _, rfl, rfl, j9, j10, f9, fr⟩
          · rw [wif_f hw, wif_f hw]
            exact ⟨_, M9, N1, _, rfl, rfl, j9, j10, f9, fr⟩
        · have e40 : nA (S.1 0) = 40 := by omega
          rw [e40, if_neg (show ¬ nI 40 < (40 : Int32) from nI_nlt (a := 40) (b := 40) (by omega) (by omega)), if_pos (show nI 40 = (40 : Int32) from rfl)]
          exact ⟨_, M, N, S, rfl, rfl, hM, hN, FrCl.rf, FrRf.rf⟩
      · rw [wif_f hy, wif_f hy]
        exact ⟨_, M, N, S, rfl, rfl, hM, hN, FrCl.rf, FrRf.rf⟩
    · rw [wif_f hx, wif_f hx]
      exact ⟨_, M, N, S, rfl, rfl, hM, hN, FrCl.rf, FrRf.rf⟩
  · rw [wif_f hp, wif_f hp]
    exact ⟨_, M, N, S, rfl, rfl, hM, hN, FrCl.rf, FrRf.rf⟩
end Meth9
