/-! Public methods, both sides: undo, anew, count. -/
section Meth8
variable {S : St} {M N : Mem} {W W' : Wd}
def wdS (S : St) (W : Wd) : St := (fun i => if i = 0 then W else S.1 i, S.2)
theorem wdS_0 (S : St) (W : Wd) : (wdS S W).1 0 = W := by simp [wdS]
theorem wdS_i (S : St) (W : Wd) {i : Nat} (h : ¬ i = 0) : (wdS S W).1 i = S.1 i := by simp [wdS, h]
theorem SOk.wd (h : SOk S) (hW : WOk W) : SOk (wdS S W) := by
  refine ⟨fun i hi => ?_, by rw [wdS_i _ _ (by omega)]; exact h.2.1, by rw [wdS_i _ _ (by omega), wdS_i _ _ (by omega)]; exact h.2.2⟩
  by_cases e : i = 0
  · rw [e, wdS_0]; exact hW
  · rw [wdS_i _ _ e]; exact h.1 i hi
theorem JC.wd (h : JC S M) {M' : Mem} (hW : WOk W) (hT : Tw W 9 M') (hC : CW W M') (hr : Rx0 M') (hz : GZ (vX 41 M')) (f : ∀ c, c < 80 → ¬ (9 ≤ c ∧ c ≤ 14) → ¬ (35 ≤ c ∧ c ≤ 57) → M'.1 c = M.1 c ∧ M'.2 c = M.2 c) : JC (wdS S W) M' := by
  obtain ⟨⟨a1, a2, a3⟩, ⟨b1, b2, b3⟩, c1, d1, e1, g1, i1⟩ := h
  have w : ∀ c, c < 80 → ¬ (9 ≤ c ∧ c ≤ 14) → ¬ (35 ≤ c ∧ c ≤ 57) → M'.1 c = M.1 c := fun c x y z => (f c x y z).1
  refine ⟨⟨a1.wd hW, by rw [wdS_0]; exact hT, by rw [wdS_0]; exact hC⟩, ⟨hr, hz, ?_⟩, fun i hi => ⟨by rw [wdS_i _ _ (by omega)]; exact (c1 i hi).1.fr (fun c x y => w c (by omega) (by omega) (by omega)), ?_⟩, ?_, ?_, ?_, ?_⟩
  · rw [vX_fr (fun c x y => w c (by omega) (by omega) (by omega))]; exact b3
  · rw [w 34 (by omega) (by omega) (by omega), wdS_i _ _ (by omega)]; exact (c1 i hi).2
  · rw [w 2 (by omega) (by omega) (by omega), wdS_i _ _ (by omega)]; exact d1
  · rw [w 1 (by omega) (by omega) (by omega), wdS_i _ _ (by omega)]; exact e1
  · rw [w 77 (by omega) (by omega) (by omega), w 78 (by omega) (by omega) (by omega), wdS_i _ _ (by omega), wdS_i _ _ (by omega)]; exact g1
  · rw [(f 79 (by omega) (by omega) (by omega)).2]; exact i1
theorem JR.wd (h : JR S N) {N' : Mem} (hW : WOk W) (hw : N'.1 81 = W) (f : ∀ c, 80 ≤ c → ¬ c = 81 → N'.1 c = N.1 c ∧ N'.2 c = N.2 c) : JR (wdS S W) N' := by
  obtain ⟨⟨a1, a2, a3⟩, c1, d1, e1, g1, i1⟩ := h
  have w : ∀ c, 80 ≤ c → ¬ c = 81 → N'.1 c = N.1 c := fun c x y => (f c x y).1
  refine ⟨⟨a1.wd hW, by rw [wdS_0]; exact hw, vM_fr (fun c x y => w _ (by omega) (by omega)) a3⟩, fun i hh => ?_, ?_, ?_, ?_, ?_⟩
  · rw [w 82 (by omega) (by omega), w 83 (by omega) (by omega), wdS_i _ _ (by omega), wdS_i _ _ (by omega)]; exact c1 i hh
  · rw [w 84 (by omega) (by omega), wdS_i _ _ (by omega)]; exact d1
  · rw [w 80 (by omega) (by omega), wdS_i _ _ (by omega)]; exact e1
  · rw [w 114 (by omega) (by omega), w 115 (by omega) (by omega), wdS_i _ _ (by omega), wdS_i _ _ (by omega)]; exact g1
  · rw [(f 116 (by omega) (by omega)).2]; exact i1
theorem fc_take (cf : Cfg) (l : BL) {L b : Nat} (hb : b < L) (k : Nat) : fcS cf (l.take L) b k = fcS cf l b k := by
  have e1 : (l.take L).take b = l.take b := by rw [List.take_take, Nat.min_eq_left (by omega)]
  have e2 : (l.take L).getD b (0, 0) = l.getD b (0, 0) := by
    rw [List.getD_eq_getElem?_getD, List.getD_eq_getElem?_getD, List.getElem?_take_of_lt hb]
  unfold fcS
  rw [e1, e2]
theorem keepX (hM : JC S M) (hp : pgS (S.1 0) = true) {n : Nat} (hn : n ≤ nA (S.1 0)) : ∃ M', fX9_keepActs 0 (nI n) M = some M' ∧ JC (wdS S (w8 (S.1 0) n)) M' ∧ FrCl M M' ∧ M'.1 9 8 = nI n := by
  have hW := hM.w
  have hA := hW.1.2.2.1.2
  have hO := hW.1.2.1.2
  have hl := all_len hW.1
  have hag := w8_ag (S.1 0) n
  obtain ⟨c1, c2, c3, c4⟩ := hM.1.2.2
  obtain ⟨cr, co, m, m1, m2, m3⟩ := c1 hp
  unfold fX9_keepActs
  simp only [Nat.zero_add]
  rw [(pI_o (M := M) (c := 9) (k := 8) (v := nI n) 39 (by decide)).1, c3, nI_add]
  generalize hM1 : pI (pI M 9 8 (nI n)) 39 1 (nI ((tr (S.1 0) (nS (S.1 0))).length + n)) = M1
  have q : ∀ c, ¬ c = 9 → ¬ c = 39 → M1.1 c = M.1 c := fun c x y => by rw [← hM1, (pI_o c y).1, (pI_o c x).1]
  have q2 : M1.2 = M.2 := by rw [← hM1]; rfl
  have q9 : ∀ k, ¬ k = 8 → M1.1 9 k = M.1 9 k := fun k hk => by rw [← hM1, pI_1, if_neg (by decide), pI_1, if_pos rfl, if_neg hk]
  have q98 : M1.1 9 8 = nI n := by rw [← hM1, pI_1, if_neg (by decide), pI_1, if_pos rfl, if_pos rfl]
  have q39 : M1.1 39 1 = nI ((tr (S.1 0) (nS (S.1 0))).length + n) := by rw [← hM1, pI_1, if_pos rfl, if_pos rfl]
  have q392 : M1.1 39 2 = M.1 39 2 := by rw [← hM1, pI_1, if_pos rfl, if_neg (by decide), (pI_o 39 (by decide)).1]
  have eall := w8_all hW hn
  have elen : (allS (w8 (S.1 0) n)).length = (tr (S.1 0) (nS (S.1 0))).length + n := by
    rw [eall, List.length_take, Nat.min_eq_left]
    unfold allS; rw [List.length_append, acS_len]; omega
  have epl : pl (allS (w8 (S.1 0) n)) = (pl (allS (S.1 0))).take ((tr (S.1 0) (nS (S.1 0))).length + n) := by
    rw [eall]; unfold pl; rw [List.map_take]
  obtain ⟨en1, en2⟩ := ag_nS hag hW.1
  have hle : (tr (S.1 0) (nS (S.1 0))).length + n ≤ (allS (S.1 0)).length := by
    unfold allS; rw [List.length_append, acS_len]; omega
  refine ⟨M1, rfl, hM.wd (w8_ok hW hn) ?_ ⟨fun _ => ⟨?_, ?_⟩, ⟨?_, ?_⟩, ?_, ?_⟩ ?_ ?_ (fun c x y z => ⟨q c (by omega) (by omega), by rw [q2]⟩), fun c hc => ⟨q c (by omega) (by omega), by rw [q2]⟩, q98⟩
  · obtain ⟨t1, t2, t3, t4, t5⟩ := hM.1.2.1
    refine ⟨⟨?_, ?_, ?_⟩, ?_, ⟨?_, by rw [q _ (by decide) (by decide)]; exact t3.2⟩, ⟨?_, ?_, ?_⟩, ?_⟩
    · rw [q9 5 (by decide), hag.2.2 9 (by omega) (by omega)]; exact t1.1
    · rw [q9 6 (by decide), hag.1 6 (by omega)]; exact t1.2.1
    · rw [q98]; exact (if_pos rfl).symm
    · intro k hk; rw [q _ (by decide) (by decide), hag.1 k (by omega)]; exact t2 k hk
    · intro t x y
      rw [hag.n.1] at y
      have := hW.1.1.2
      rw [q _ (by decide) (by decide), hag.2.2 (9 + t) (by omega) (by omega)]; exact t3.1 t x y
    · rw [q9 7 (by decide), hag.2.1]; exact t4.1
    · intro i hi
      rw [hag.n.2] at hi
      rw [q _ (by decide) (by decide), hag.2.2 _ (by omega) (by omega)]; exact t4.2.1 i hi
    · intro i j hi hj
      rw [hag.n.2] at hi
      rw [q _ (by decide) (by decide), hag.2.2 _ (by omega) (by omega)]; exact t4.2.2 i j hi hj
    · intro i hi
      rw [w8_n (by omega)] at hi
      rw [q _ (by decide) (by decide), show w8 (S.1 0) n (175 + i) = (S.1 0) (175 + i) from if_neg (by omega)]; exact t5 i (by omega)
  · have := hag.run hW.1 cr
    unfold RunX RxS Reg at *
    rw [q 35 (by decide) (by decide), q 36 (by decide) (by decide), q 37 (by decide) (by decide)]; exact this
  · refine ⟨⟨?_, ?_⟩, m, m1, by rw [q 41 (by decide) (by decide)]; exact m2, fun hm => ?_⟩
    · rw [hag.cf]; exact co.1.fr (q 42 (by decide) (by decide)) (q 43 (by decide) (by decide))
    · rw [hag.cf, q 41 (by decide) (by decide)]; exact co.2
    · rw [elen] at hm
      rw [hag.cf, epl, List.take_take, Nat.min_eq_left hm]
      exact (m3 (by omega)).fr (fun c x y => q c (by omega) (by omega)) (by rw [q2])
  · rw [elen]; exact q39
  · intro b x hx
    rw [q 40 (by decide) (by decide)]
    apply c2.2 b x
    rw [eall] at hx
    by_cases hb : b < (tr (S.1 0) (nS (S.1 0))).length + n
    · rw [List.getElem?_take_of_lt hb] at hx; exact hx
    · rw [List.getElem?_eq_none (by rw [List.length_take]; omega)] at hx; cases hx
  · rw [q392, en2]; exact c3
  · intro b hb k k2 k7
    rw [elen] at hb
    rw [q 40 (by decide) (by decide), hag.cf, epl, fc_take _ _ hb]
    exact c4 b (by omega) k k2 k7
  · have := hM.2.1.1
    unfold Rx0 at *
    rw [q 36 (by decide) (by decide), q 5 (by decide) (by decide), q 37 (by decide) (by decide)]; exact this
  · rw [vX_fr (fun c x y => q c (by omega) (by omega))]; exact hM.2.1.2.1
theorem keepM (hN : JR S N) {n : Nat} (hn : n ≤ nA (S.1 0)) : JR (wdS S (w8 (S.1 0) n)) (pI N 81 8 (nI n)) ∧ FrRf N (pI N 81 8 (nI n)) := by
  refine ⟨hN.wd (w8_ok hN.w hn) ?_ (fun c x y => pI_o c y), fun c hc => pI_o c (by omega)⟩
  funext k
  rw [pI_1, if_pos rfl, hN.1.2.1]; rfl
theorem m_undo : Eq2 S (fX9_undo 0) (fX10_undo 80) := by
  intro M N hM hN
  have hA := hM.w.1.2.2.1
  unfold fX9_undo fX10_undo
  rw [toldX hM, bI_s, isPgM (o := 80) hN.1.2.1, bI_s]
  by_cases hp : pgS (S.1 0) = true
  · rw [wif_t hp, wif_t hp, show ib (8 : Int32) 215 = true from rfl, ck_t, ck_t, ck_t, ck_t, show tn (8 : Int32) = 8 from rfl, show N.1 (80 + 1) = S.1 0 from hN.1.2.1, show M.1 (0 + 9) 8 = _ from hM.1.2.1.1.2.2, hA.1]
    by_cases h0 : nA (S.1 0) = 0
    · rw [h0, if_pos (show nI 0 = (0 : Int32) from rfl), if_pos (show nI 0 = (0 : Int32) from rfl)]
      exact ⟨_, M, N, S, rfl, rfl, hM, hN, FrCl.rf, FrRf.rf⟩
    · rw [if_neg (show ¬ nI (nA (S.1 0)) = (0 : Int32) from kE (n := 0) (by omega) (by omega) h0), if_neg (show ¬ nI (nA (S.1 0)) = (0 : Int32) from kE (n := 0) (by omega) (by omega) h0), show nI (nA (S.1 0)) - 1 = nI (nA (S.1 0) - 1) from pk_sub (b := 1) (by omega)]
      obtain ⟨M1, e1, j1, f1, a1⟩ := keepX hM hp (show nA (S.1 0) - 1 ≤ nA (S.1 0) by omega)
      obtain ⟨j2, f2⟩ := keepM hN (show nA (S.1 0) - 1 ≤ nA (S.1 0) by omega)
      rw [e1, bV_s, show M1.1 (0 + 9) 8 = _ from a1, show (pI N (80 + 1) 8 (nI (nA (S.1 0) - 1))).1 (80 + 1) 8 = nI (nA (S.1 0) - 1) by rw [pI_1, if_pos rfl, if_pos rfl]]
      exact ⟨_, M1, _, _, rfl, rfl, j1, j2, f1, f2⟩
  · rw [wif_f hp, wif_f hp]
    exact ⟨_, M, N, S, rfl, rfl, hM, hN, FrCl.rf, FrRf.rf⟩
theorem m_anew : Eq2 S (fX9_anew 0) (fX10_anew 80) := by
  intro M N hM hN
  have hA := hM.w.1.2.2.1
  unfold fX9_anew fX10_anew
  rw [toldX hM, bI_s, isPgM (o := 80) hN.1.2.1, bI_s]
  by_cases hp : pgS (S.1 0) = true
  · rw [wif_t hp, wif_t hp, show ib (8 : Int32) 215 = true from rfl, ck_t, ck_t, show tn (8 : Int32) = 8 from rfl, show N.1 (80 + 1) = S.1 0 from hN.1.2.1, show M.1 (0 + 9) 8 = _ from hM.1.2.1.1.2.2]
    obtain ⟨M1, e1, j1, f1, a1⟩ := keepX hM hp (Nat.zero_le (nA (S.1 0)))
    obtain ⟨j2, f2⟩ := keepM hN (Nat.zero_le (nA (S.1 0)))
    rw [show fX9_keepActs 0 0 M = _ from e1, bV_s]
    exact ⟨_, M1, _, _, rfl, rfl, j1, j2, f1, f2⟩
  · rw [wif_f hp, wif_f hp]
    exact ⟨_, M, N, S, rfl, rfl, hM, hN, FrCl.rf, FrRf.rf⟩
theorem l_used (hM : JC S M) (hN : JR S N) : ∀ (m i f : Nat) (a : Int32), i + m = 4 → m < f → ∃ v, fX5_used_4 f 76 a (nI i) M = some (v, M) ∧ fX10_count_92 f 80 a (nI i) N = some (v, N) := by
  intro m
  induction m with
  | zero =>
    intro i f a hm hf
    cases f with
    | zero => omega
    | succ f =>
      unfold fX5_used_4 fX10_count_92
      rw [if_pos (show (4 : Int32) ≤ nI i from nI_le (a := 4) (by omega) (by omega)), if_pos (show (4 : Int32) ≤ nI i from nI_le (a := 4) (by omega) (by omega))]
      exact ⟨a, rfl, rfl⟩
  | succ m ih =>
    intro i f a hm hf
    cases f with
    | zero => omega
    | succ f =>
      unfold fX5_used_4 fX10_count_92 fX5_used_20 fX10_count_113
      rw [if_neg (show ¬ (4 : Int32) ≤ nI i from nI_ge (b := 4) (by omega) (by omega)), if_neg (show ¬ (4 : Int32) ≤ nI i from nI_ge (b := 4) (by omega) (by omega)), hasRX hM (show i < 4 by omega), bI_s, ib_n (show i < 4 by omega) (by omega), ck_t, tn_n (by omega), show N.1 (80 + 34) i = _ from (hN.2.2.2.2.1 i (by omega)).2, nI_1, Int32.add_zero]
      by_cases e : S.1 7 i = -1
      · rw [wif_f (by simp [e]), if_pos e]; exact ih (i + 1) f _ (by omega) (by omega)
      · rw [wif_t (by simp [e]), if_neg e]; exact ih (i + 1) f _ (by omega) (by omega)
theorem m_count (x : Int32) : Eq2 S (fX9_count 0 x) (fX10_count 80 x) := by
  apply eq2_c
  intro M N hM hN
  unfold fX9_count fX10_count fX5_used
  simp only [Nat.zero_add]
  have hw : N.1 (80 + 1) = S.1 0 := hN.1.2.1
  rw [wX x 0 5 0 5 rfl rfl, bI_s, wM x 0 7 0 7 rfl rfl, bI_s]
  by_cases h7 : inS x 0 7 = true
  · obtain ⟨k, hk, ek⟩ := in_n (n := 7) (by omega) h7
    subst ek
    rw [wif_t h7, ib_n (show k < 215 by omega) (by omega), ck_t, tn_n (by omega), hw]
    by_cases h5 : inS (nI k) 0 5 = true
    · obtain ⟨d, hd, ed⟩ := in_n (n := 5) (by omega) h5
      have : k = d := (nI_eq (by omega) (by omega)).mp ed
      rw [wif_t h5, ib_n (show k < 6 by omega) (by omega), ck_t, show M.1 (9 + 1) k = _ from hM.1.2.1.2.1 k (by omega)]
      exact ⟨_, N, rfl, rfl, hN, FrJ.rf⟩
    · have h67 : k = 6 ∨ k = 7 := by
        by_cases z : k ≤ 5
        · exact absurd (show inS (nI k) 0 5 = true by unfold inS; simp only [decide_eq_true_eq]; exact ⟨nI_pos' (by omega), nI_le (b := 5) z (by omega)⟩) h5
        · omega
      rw [wif_f h5]
      rcases h67 with rfl | rfl
      · rw [if_pos (show nI 6 = (6 : Int32) from rfl), hM.1.2.1.1.2.1]
        exact ⟨_, N, rfl, rfl, hN, FrJ.rf⟩
      · rw [if_neg (show ¬ nI 7 = (6 : Int32) from kE (n := 6) (by omega) (by omega) (by decide)), if_pos (show nI 7 = (7 : Int32) from rfl), hM.1.2.1.2.2.2.1.1]
        exact ⟨_, N, rfl, rfl, hN, FrJ.rf⟩
  · have hne : ∀ k : Nat, k ≤ 7 → ¬ x = nI k := by
      intro k hk e
      apply h7
      unfold inS
      rw [e]
      simp only [decide_eq_true_eq]
      exact ⟨nI_pos' (by omega), nI_le (b := 7) hk (by omega)⟩
    have h5 : ¬ inS x 0 5 = true := by
      intro z
      obtain ⟨d, hd, ed⟩ := in_n (n := 5) (by omega) z
      exact hne d (by omega) ed
    rw [wif_f h7, wif_f h5, if_neg (show ¬ x = (6 : Int32) from hne 6 (by omega)), if_neg (show ¬ x = (7 : Int32) from hne 7 (by omega))]
    by_cases h8 : x = 8
    · obtain ⟨N1, e1, l1, j1, f1⟩ := hN.lays
      rw [if_pos h8, if_pos h8, e1, bI_s, hM.1.2.2.2.2.1]
      by_cases hp : pgS (S.1 0) = true
      · rw [wif_t hp, l1.2.2.1]
        exact ⟨_, N1, rfl, rfl, j1, f1⟩
      · have hp' : pgS (S.1 0) = false := by simpa using hp
        rw [wif_f hp, (hM.w.nil hp').2.1]
        exact ⟨_, N1, rfl, rfl, j1, f1⟩
    · rw [if_neg h8, if_neg h8]
      by_cases h9 : x = 9
      · rw [if_pos h9, if_pos h9, show ib (8 : Int32) 215 = true from rfl, ck_t, show tn (8 : Int32) = 8 from rfl, hw, hM.1.2.1.1.2.2]
        exact ⟨_, N, rfl, rfl, hN, FrJ.rf⟩
      · rw [if_neg h9, if_neg h9]
        by_cases h10 : x = 10
        · rw [if_pos h10, if_pos h10, show ib (9 : Int32) 215 = true from rfl, ck_t, show tn (9 : Int32) = 9 from rfl, hw, hM.1.2.1.1.1]
          exact ⟨_, N, rfl, rfl, hN, FrJ.rf⟩
        · rw [if_neg h10, if_neg h10]
          by_cases h11 : x = 11
          · rw [if_pos h11, if_pos h11, hM.2.2.2.2.1.1, hN.2.2.2.1.1]
            exact ⟨_, N, rfl, rfl, hN, FrJ.rf⟩
          · rw [if_neg h11, if_neg h11]
            by_cases h12 : x = 12
            · obtain ⟨v, c1, c2⟩ := l_used hM hN 4 0 LF 0 (by omega) (by unfold LF; omega)
              rw [if_pos h12, if_pos h12, show fX5_used_4 LF 76 0 0 M = _ from c1, bI_s]
              exact ⟨v, N, rfl, c2, hN, FrJ.rf⟩
            · rw [if_neg h12, if_neg h12]
              exact ⟨_, N, rfl, rfl, hN, FrJ.rf⟩
end Meth8
