/-! Public methods, both sides: the tape (feed, end). -/
section Meth5
variable {S S' : St} {M N : Mem}
theorem SOk.tp (h : SOk S) (hi : ∀ i, ¬ i = 5 → ¬ i = 6 → S'.1 i = S.1 i) (hn : ∃ n, n ≤ 800 ∧ S'.1 6 0 = nI n) : SOk S' := by
  obtain ⟨a, b, c⟩ := h
  refine ⟨fun i h => by rw [hi i (by omega) (by omega)]; exact a i h, hn, ?_⟩
  rw [hi 7 (by omega) (by omega), hi 8 (by omega) (by omega)]; exact c
theorem JC.tp (h : JC S M) {M' : Mem} (hi : ∀ i, ¬ i = 5 → ¬ i = 6 → S'.1 i = S.1 i) (h2 : S'.2 = S.2) (hn : ∃ n, n ≤ 800 ∧ S'.1 6 0 = nI n) (f : ∀ c, c < 80 → ¬ c = 1 → ¬ c = 2 → M'.1 c = M.1 c ∧ M'.2 c = M.2 c) (t : ∀ i, i < 800 → M'.1 2 i = S'.1 5 i ∧ Bt (S'.1 5 i)) (e : M'.1 1 1 = S'.1 6 0 ∧ M'.1 1 2 = S'.1 6 1 ∧ M'.1 1 3 = S'.1 6 2) : JC S' M' := by
  obtain ⟨⟨a1, a2, a3⟩, ⟨b1, b2, b3⟩, c1, d1, e1, g1, i1⟩ := h
  have w : ∀ c, c < 80 → ¬ c = 1 → ¬ c = 2 → M'.1 c = M.1 c := fun c x y z => (f c x y z).1
  have s0 := hi 0 (by omega) (by omega)
  refine ⟨⟨a1.tp hi hn, by rw [s0]; exact a2.fr (fun c x y => w c (by omega) (by omega) (by omega)), by rw [s0]; exact a3.fr (fun c x y z => f c (by omega) (by omega) (by omega))⟩, ⟨?_, ?_, ?_⟩, fun i hh => ⟨by rw [hi (1 + i) (by omega) (by omega)]; exact (c1 i hh).1.fr (fun c x y => w c (by omega) (by omega) (by omega)), ?_⟩, t, e, ?_, ?_⟩
  · unfold Rx0 at *
    rw [w 36 (by omega) (by omega) (by omega), w 5 (by omega) (by omega) (by omega), w 37 (by omega) (by omega) (by omega)]; exact b1
  · rw [vX_fr (fun c x y => w c (by omega) (by omega) (by omega))]; exact b2
  · rw [vX_fr (fun c x y => w c (by omega) (by omega) (by omega))]; exact b3
  · rw [w 34 (by omega) (by omega) (by omega), hi 4 (by omega) (by omega)]; exact (c1 i hh).2
  · rw [w 77 (by omega) (by omega) (by omega), w 78 (by omega) (by omega) (by omega), hi 7 (by omega) (by omega), hi 8 (by omega) (by omega)]; exact g1
  · rw [(f 79 (by omega) (by omega) (by omega)).2, h2]; exact i1
theorem vM_fr {o : Nat} {M M' : Mem} (h : ∀ c, 13 ≤ c → c ≤ 22 → M'.1 (o + c) = M.1 (o + c)) (hz : GZ (vM o M)) : GZ (vM o M') := by
  intro i k hi hk
  have := hz i k hi hk
  have e : vM o M' i k = vM o M i k := by
    have : i = 0 ∨ i = 1 ∨ i = 2 ∨ i = 3 ∨ i = 4 ∨ i = 5 ∨ i = 6 ∨ i = 7 ∨ i = 8 ∨ i = 9 := by omega
    rcases this with rfl | rfl | rfl | rfl | rfl | rfl | rfl | rfl | rfl | rfl <;> exact congrFun (h _ (by omega) (by omega)) k
  rw [e]; exact this
theorem JR.tp (h : JR S N) {N' : Mem} (hi : ∀ i, ¬ i = 5 → ¬ i = 6 → S'.1 i = S.1 i) (h2 : S'.2 = S.2) (hn : ∃ n, n ≤ 800 ∧ S'.1 6 0 = nI n) (f : ∀ c, 80 < c → ¬ (84 ≤ c ∧ c ≤ 86) → N'.1 c = N.1 c ∧ N'.2 c = N.2 c) (t : ∀ i, i < 800 → N'.1 84 i = S'.1 5 i) (e : N'.1 80 5 = S'.1 6 0 ∧ N'.1 80 12 = S'.1 6 1 ∧ N'.1 80 13 = S'.1 6 2) : JR S' N' := by
  obtain ⟨⟨a1, a2, a3⟩, c1, d1, e1, g1, i1⟩ := h
  have w : ∀ c, 80 < c → ¬ (84 ≤ c ∧ c ≤ 86) → N'.1 c = N.1 c := fun c x y => (f c x y).1
  refine ⟨⟨a1.tp hi hn, by rw [w 81 (by omega) (by omega), hi 0 (by omega) (by omega)]; exact a2, vM_fr (fun c x y => w _ (by omega) (by omega)) a3⟩, fun i hh => ?_, t, e, ?_, ?_⟩
  · rw [w 82 (by omega) (by omega), w 83 (by omega) (by omega), hi (1 + i) (by omega) (by omega), hi 4 (by omega) (by omega)]; exact c1 i hh
  · rw [w 114 (by omega) (by omega), w 115 (by omega) (by omega), hi 7 (by omega) (by omega), hi 8 (by omega) (by omega)]; exact g1
  · rw [(f 116 (by omega) (by omega)).2, h2]; exact i1
def tpS (S : St) (n : Int32) (t : Nat → Int32) : St := (fun i k => if i = 6 ∧ k = 0 then n else if i = 5 then t k else S.1 i k, S.2)
theorem tpS_i (S : St) (n : Int32) (t : Nat → Int32) : ∀ i, ¬ i = 5 → ¬ i = 6 → (tpS S n t).1 i = S.1 i := by
  intro i h5 h6
  funext k
  show (if i = 6 ∧ k = 0 then n else if i = 5 then t k else S.1 i k) = _
  rw [if_neg (fun z => h6 z.1), if_neg h5]
theorem m_end (x : Int32) : Eq2 S (fX9_end 0 x) (fX10_end 80 x) := by
  intro M N hM hN
  unfold fX9_end fX10_end
  rw [show M.1 (0 + 1) 1 = S.1 6 0 from hM.2.2.2.2.1.1, hN.2.2.2.1.1, wX0, bI_s, wM0, bI_s]
  by_cases hx : inS x 0 (S.1 6 0) = true
  · rw [wif_t hx, wif_t hx]
    obtain ⟨n, hn, en⟩ := hM.1.1.2.1
    rw [en] at hx
    obtain ⟨m, hm, em⟩ := in_n (by omega) hx
    have hs : ∃ n, n ≤ 800 ∧ (tpS S x (S.1 5)).1 6 0 = nI n := ⟨m, by omega, em⟩
    refine ⟨x, _, _, tpS S x (S.1 5), rfl, rfl, hM.tp (tpS_i _ _ _) rfl hs (fun c h1 h2 h3 => pI_o c h2) (fun i hi => ?_) ⟨?_, ?_, ?_⟩, hN.tp (tpS_i _ _ _) rfl hs (fun c h1 h2 => pI_o c (by omega)) (fun i hi => ?_) ⟨?_, ?_, ?_⟩, fun c hc => pI_o c (by omega), fun c hc => pI_o c (by omega)⟩
    · rw [pI_1, if_neg (by decide)]; exact hM.2.2.2.1 i hi
    · rw [pI_1, if_pos rfl, if_pos rfl]; rfl
    · rw [pI_1, if_pos rfl, if_neg (by decide)]; exact hM.2.2.2.2.1.2.1
    · rw [pI_1, if_pos rfl, if_neg (by decide)]; exact hM.2.2.2.2.1.2.2
    · rw [pI_1, if_neg (by decide)]; exact hN.2.2.1 i hi
    · rw [pI_1, if_pos rfl, if_pos rfl]; rfl
    · rw [pI_1, if_pos rfl, if_neg (by decide)]; exact hN.2.2.2.1.2.1
    · rw [pI_1, if_pos rfl, if_neg (by decide)]; exact hN.2.2.2.1.2.2
  · rw [wif_f hx, wif_f hx]
    exact ⟨_, M, N, S, rfl, rfl, hM, hN, FrCl.rf, FrRf.rf⟩
def bt (x : Int32) (j : Nat) : Int32 := vp_nar .byte ((x >>> (nI (24 - 8 * j) &&& 31))).toInt8.toInt32
theorem i8_Bt (y : Int8) : Bt y.toInt32 := by
  unfold Bt
  rw [Int8.toInt_toInt32]
  exact ⟨Int8.le_toInt y, by have := Int8.toInt_lt y; omega⟩
theorem bt_Bt (x : Int32) (j : Nat) : Bt (bt x j) := i8_Bt _
def AF (n k : Nat) (v : Nat → Int32) (M M' : Mem) : Prop := M'.1 1 1 = nI (n + k) ∧ (∀ i, M'.1 2 i = if n ≤ i ∧ i < n + k then v (i - n) else M.1 2 i) ∧ (∀ j, ¬ j = 1 → M'.1 1 j = M.1 1 j) ∧ (∀ c, ¬ c = 1 → ¬ c = 2 → M'.1 c = M.1 c) ∧ M'.2 = M.2
theorem app1 {n k f s : Nat} {x : Int32} {v : Nat → Int32} {M M1 : Mem} (hA : AF n k v M M1) (hn : n + k < 800) (hs : s < 32) (hv : v k = vp_nar .byte ((x >>> (nI s &&& 31))).toInt8.toInt32) : ∃ M2, fX3_append_3 (f + 1) 1 x (nI s) M1 = fX3_append_3 f 1 x (nI s + (-8)) M2 ∧ AF n (k + 1) v M M2 := by
  have e0 : fX3_append_3 (f + 1) 1 x (nI s) M1 = if nI s < 0 then some M1 else ck (ib (M1.1 1 1) 800) (fX3_append_3 f 1 x (nI s + (-8)) (pI (pI M1 2 (tn (M1.1 1 1)) (vp_nar .byte ((x >>> (nI s &&& 31))).toInt8.toInt32)) 1 1 (((pI M1 2 (tn (M1.1 1 1)) (vp_nar .byte ((x >>> (nI s &&& 31))).toInt8.toInt32)).1 1 1) + 1))) := rfl
  rw [e0, if_neg (nI_nneg (by omega)), hA.1, ib_n (show n + k < 800 from hn) (by omega), ck_t, tn_n (by omega)]
  refine ⟨_, rfl, ?_, ?_, ?_, ?_, ?_⟩
  · rw [pI_1, if_pos rfl, if_pos rfl, pI_1, if_neg (by decide), hA.1, nI_1]; rfl
  · intro i
    rw [pI_1, if_neg (by decide), pI_1, if_pos rfl, hA.2.1 i]
    by_cases e : i = n + k
    · rw [if_pos e, if_pos (by omega), show i - n = k by omega, hv]
    · rw [if_neg e]
      by_cases e2 : n ≤ i ∧ i < n + k
      · rw [if_pos e2, if_pos (by omega)]
      · rw [if_neg e2, if_neg (by omega)]
  · intro j hj
    rw [pI_1, if_pos rfl, if_neg hj, pI_1, if_neg (by decide)]; exact hA.2.2.1 j hj
  · intro c h1 h2
    rw [(pI_o c h1).1, (pI_o c h2).1]; exact hA.2.2.2.1 c h1 h2
  · exact hA.2.2.2.2
theorem app4 {n k : Nat} {x : Int32} {v : Nat → Int32} {M M1 : Mem} (hA : AF n k v M M1) (hn : n + k + 4 ≤ 800) (hv : ∀ j, j < 4 → v (k + j) = bt x j) : ∃ M2, fX3_append 1 x M1 = some M2 ∧ AF n (k + 4) v M M2 := by
  unfold fX3_append
  obtain ⟨A1, a1, b1⟩ := app1 (f := 99999) (s := 24) (x := x) hA (by omega) (by omega) (hv 0 (by omega))
  obtain ⟨A2, a2, b2⟩ := app1 (f := 99998) (s := 16) (x := x) b1 (by omega) (by omega) (hv 1 (by omega))
  obtain ⟨A3, a3, b3⟩ := app1 (f := 99997) (s := 8) (x := x) b2 (by omega) (by omega) (hv 2 (by omega))
  obtain ⟨A4, a4, b4⟩ := app1 (f := 99996) (s := 0) (x := x) b3 (by omega) (by omega) (hv 3 (by omega))
  refine ⟨A4, ?_, b4⟩
  rw [show fX3_append_3 LF 1 x 24 M1 = _ from a1, show fX3_append_3 99999 1 x (nI 24 + -8) A1 = _ from a2, show fX3_append_3 99998 1 x (nI 16 + -8) A2 = _ from a3, show fX3_append_3 99997 1 x (nI 8 + -8) A3 = _ from a4]
  rfl
theorem feed55 {n : Nat} (hn : n + 20 ≤ 800) {xs : Nat → Int32} {N0 : Mem} : ∀ (m j f : Nat) (N1 : Mem), j + m = 20 → m < f → N1.1 80 5 = nI n → (∀ k, k < 5 → N1.1 85 k = xs k) → (∀ i, N1.1 84 i = if n ≤ i ∧ i < n + j then bt (xs ((i - n) / 4)) ((i - n) % 4) else N0.1 84 i) → ∃ N2, fX10_feed_55 f 80 (nI j) N1 = some (nI (n + 20), N2) ∧ (∀ i, N2.1 84 i = if n ≤ i ∧ i < n + 20 then bt (xs ((i - n) / 4)) ((i - n) % 4) else N0.1 84 i) ∧ N2.1 80 5 = nI (n + 20) ∧ (∀ k, ¬ k = 5 → N2.1 80 k = N1.1 80 k) ∧ (∀ c, ¬ c = 80 → ¬ c = 84 → N2.1 c = N1.1 c) ∧ N2.2 = N1.2 := by
  intro m
  induction m with
  | zero =>
    intro j f N1 hm hf h5 hx ht
    have : j = 20 := by omega
    subst this
    cases f with
    | zero => omega
    | succ f =>
      unfold fX10_feed_55
      rw [if_pos (show (20 : Int32) ≤ nI 20 from nI_le (a := 20) (b := 20) (by omega) (by omega)), h5, show nI n + 20 = nI (n + 20) from nI_add n 20]
      refine ⟨_, by rw [pI_1, if_pos rfl, if_pos rfl], fun i => ?_, ?_, fun k hk => ?_, fun c h1 h2 => (pI_o c h1).1, rfl⟩
      · rw [pI_1, if_neg (by decide)]; exact ht i
      · rw [pI_1, if_pos rfl, if_pos rfl]
      · rw [pI_1, if_pos rfl, if_neg hk]
  | succ m ih =>
    intro j f N1 hm hf h5 hx ht
    cases f with
    | zero => omega
    | succ f =>
      unfold fX10_feed_55
      rw [if_neg (show ¬ (20 : Int32) ≤ nI j from nI_ge (b := 20) (by omega) (by omega)), show nI j / 4 = nI (j / 4) from pk_div (d := 4) (by omega) (by omega) (by omega), ib_n (show j / 4 < 5 by omega) (by omega), ck_t, h5, nI_add, ib_n (show n + j < 800 by omega) (by omega), ck_t, tn_n (by omega), tn_n (by omega), show N1.1 (80 + 5) (j / 4) = _ from hx (j / 4) (by omega), show irm (nI j) 4 = nI (j % 4) from pk_rem (d := 4) (by omega) (by omega) (by omega), show (8 : Int32) * nI (j % 4) = nI (8 * (j % 4)) from pk_mul 8 _, show (24 : Int32) - nI (8 * (j % 4)) = nI (24 - 8 * (j % 4)) from pk_sub (a := 24) (by omega), nI_1]
      obtain ⟨N2, e2, a, b, c, d, e⟩ := ih (j + 1) f (pI N1 (80 + 4) (n + j) (bt (xs (j / 4)) (j % 4))) (by omega) (by omega) (by rw [pI_1, if_neg (by decide)]; exact h5) (fun k hk => by rw [pI_1, if_neg (by decide)]; exact hx k hk) (fun i => by
        rw [pI_1, if_pos rfl, ht i]
        by_cases e : i = n + j
        · rw [if_pos e, if_pos (by omega), show i - n = j by omega]
        · rw [if_neg e]
          by_cases e2 : n ≤ i ∧ i < n + j
          · rw [if_pos e2, if_pos (by omega)]
          · rw [if_neg e2, if_neg (by omega)])
      refine ⟨N2, e2, a, b, fun k hk => by rw [c k hk, (pI_o 80 (by decide)).1], fun c h1 h2 => by rw [d c h1 h2, (pI_o c h2).1], e⟩
def x5 (a b c d e : Int32) (k : Nat) : Int32 := if k = 0 then a else if k = 1 then b else if k = 2 then c else if k = 3 then d else e
def v5 (a b c d e : Int32) (j : Nat) : Int32 := bt (x5 a b c d e (j / 4)) (j % 4)
theorem v5_0 (a b c d e : Int32) {j : Nat} (h : j < 4) : v5 a b c d e (0 + j) = bt a j := by
  unfold v5; rw [show (0 + j) / 4 = 0 by omega, show (0 + j) % 4 = j by omega]; rfl
theorem v5_1 (a b c d e : Int32) {j : Nat} (h : j < 4) : v5 a b c d e (4 + j) = bt b j := by
  unfold v5; rw [show (4 + j) / 4 = 1 by omega, show (4 + j) % 4 = j by omega]; rfl
theorem v5_2 (a b c d e : Int32) {j : Nat} (h : j < 4) : v5 a b c d e (8 + j) = bt c j := by
  unfold v5; rw [show (8 + j) / 4 = 2 by omega, show (8 + j) % 4 = j by omega]; rfl
theorem v5_3 (a b c d e : Int32) {j : Nat} (h : j < 4) : v5 a b c d e (12 + j) = bt d j := by
  unfold v5; rw [show (12 + j) / 4 = 3 by omega, show (12 + j) % 4 = j by omega]; rfl
theorem v5_4 (a b c d e : Int32) {j : Nat} (h : j < 4) : v5 a b c d e (16 + j) = bt e j := by
  unfold v5; rw [show (16 + j) / 4 = 4 by omega, show (16 + j) % 4 = j by omega]; rfl
theorem feedX {n : Nat} {M : Mem} (a b c d e : Int32) (hc : n + 20 ≤ 800) (h1 : M.1 1 1 = nI n) : ∃ M', fX9_feed 0 a b c d e M = some (nI (n + 20), M') ∧ AF n 20 (v5 a b c d e) M M' := by
  unfold fX9_feed
  have hcc : nI (n + 20) ≤ (800 : Int32) := nI_le (b := 800) hc (by omega)
  rw [show M.1 (0 + 1) 1 = nI n from h1, show nI n + 20 = nI (n + 20) from nI_add n 20, if_pos hcc]
  have A0 : AF n 0 (v5 a b c d e) M M := ⟨h1, fun i => by rw [if_neg (by omega)], fun _ _ => rfl, fun _ _ _ => rfl, rfl⟩
  obtain ⟨M1, e1, A1⟩ := app4 (x := a) A0 (by omega) (fun j hj => v5_0 a b c d e hj)
  obtain ⟨M2, e2, A2⟩ := app4 (x := b) (k := 4) A1 (by omega) (fun j hj => v5_1 a b c d e hj)
  obtain ⟨M3, e3, A3⟩ := app4 (x := c) (k := 8) A2 (by omega) (fun j hj => v5_2 a b c d e hj)
  obtain ⟨M4, e4, A4⟩ := app4 (x := d) (k := 12) A3 (by omega) (fun j hj => v5_3 a b c d e hj)
  obtain ⟨M5, e5, A5⟩ := app4 (x := e) (k := 16) A4 (by omega) (fun j hj => v5_4 a b c d e hj)
  rw [show fX3_append (0 + 1) a M = _ from e1, bV_s, show fX3_append (0 + 1) b M1 = _ from e2, bV_s, show fX3_append (0 + 1) c M2 = _ from e3, bV_s, show fX3_append (0 + 1) d M3 = _ from e4, bV_s, show fX3_append (0 + 1) e M4 = _ from e5, bV_s, show M5.1 (0 + 1) 1 = nI (n + 20) from A5.1]
  exact ⟨M5, rfl, A5⟩
theorem feedM {n : Nat} {N : Mem} (a b c d e : Int32) (hc : n + 20 ≤ 800) (h2 : N.1 80 5 = nI n) : ∃ N', fX10_feed 80 a b c d e N = some (nI (n + 20), N') ∧ (∀ i, N'.1 84 i = if n ≤ i ∧ i < n + 20 then v5 a b c d e (i - n) else N.1 84 i) ∧ N'.1 80 5 = nI (n + 20) ∧ (∀ k, ¬ k = 5 → N'.1 80 k = N.1 80 k) ∧ (∀ c, ¬ c = 80 → ¬ c = 84 → ¬ c = 85 → N'.1 c = N.1 c) ∧ N'.2 = N.2 := by
  unfold fX10_feed
  have hcc : nI (n + 20) ≤ (800 : Int32) := nI_le (b := 800) hc (by omega)
  rw [h2, show nI n + 20 = nI (n + 20) from nI_add n 20, if_pos hcc, show ib (0 : Int32) 5 = true from rfl, ck_t, show ib (1 : Int32) 5 = true from rfl, ck_t, show ib (2 : Int32) 5 = true from rfl, ck_t, show ib (3 : Int32) 5 = true from rfl, ck_t, show ib (4 : Int32) 5 = true from rfl, ck_t, show tn (0 : Int32) = 0 from rfl, show tn (1 : Int32) = 1 from rfl, show tn (2 : Int32) = 2 from rfl, show tn (3 : Int32) = 3 from rfl, show tn (4 : Int32) = 4 from rfl]
  generalize hN1 : pI (pI (pI (pI (pI N (80 + 5) 0 a) (80 + 5) 1 b) (80 + 5) 2 c) (80 + 5) 3 d) (80 + 5) 4 e = N1
  have q1 : ∀ c, ¬ c = 85 → N1.1 c = N.1 c := fun c hc => by rw [← hN1, (pI_o c hc).1, (pI_o c hc).1, (pI_o c hc).1, (pI_o c hc).1, (pI_o c hc).1]
  have q2 : N1.2 = N.2 := by rw [← hN1]; rfl
  have q3 : ∀ k, k < 5 → N1.1 85 k = x5 a b c d e k := by
    intro k hk
    rw [← hN1]
    have : k = 0 ∨ k = 1 ∨ k = 2 ∨ k = 3 ∨ k = 4 := by omega
    rcases this with rfl | rfl | rfl | rfl | rfl <;> simp [pI_1, x5]
  obtain ⟨N2, r1, r2, r3, r4, r5, r6⟩ := feed55 (N0 := N) hc 20 0 LF N1 (by omega) (by unfold LF; omega) (by rw [q1 80 (by decide)]; exact h2) q3 (fun i => by rw [if_neg (by omega), q1 84 (by decide)])
  rw [show fX10_feed_55 LF 80 0 N1 = _ from r1]
  exact ⟨N2, rfl, r2, r3, fun k hk => by rw [r4 k hk, q1 80 (by decide)], fun c h1 h2 h3 => by rw [r5 c h1 h2, q1 c h3], by rw [r6, q2]⟩
theorem tpS_0 (S : St) (n : Int32) (t : Nat → Int32) : (tpS S n t).1 6 0 = n := by simp [tpS]
theorem tpS_5 (S : St) (n : Int32) (t : Nat → Int32) (i : Nat) : (tpS S n t).1 5 i = t i := by simp [tpS]
theorem tpS_6 (S : St) (n : Int32) (t : Nat → Int32) {k : Nat} (h : ¬ k = 0) : (tpS S n t).1 6 k = S.1 6 k := by show (if 6 = 6 ∧ k = 0 then n else if 6 = 5 then t k else S.1 6 k) = _; rw [if_neg (fun z => h z.2), if_neg (by omega)]
theorem m_feed (a b c d e : Int32) : Eq2 S (fX9_feed 0 a b c d e) (fX10_feed 80 a b c d e) := by
  intro M N hM hN
  obtain ⟨n, hn, en⟩ := hM.1.1.2.1
  have h1 : M.1 1 1 = nI n := by rw [← en]; exact hM.2.2.2.2.1.1
  have h2 : N.1 80 5 = nI n := by rw [← en]; exact hN.2.2.2.1.1
  by_cases hc : n + 20 ≤ 800
  · obtain ⟨M5, e5, A5⟩ := feedX a b c d e hc h1
    obtain ⟨N2, r1, r2, r3, r4, r5, r6⟩ := feedM a b c d e hc h2
    refine ⟨_, M5, N2, tpS S (nI (n + 20)) (fun i => if n ≤ i ∧ i < n + 20 then v5 a b c d e (i - n) else S.1 5 i), e5, r1, hM.tp (tpS_i _ _ _) rfl ⟨n + 20, hc, tpS_0 _ _ _⟩ (fun c x y z => ⟨A5.2.2.2.1 c y z, by rw [A5.2.2.2.2]⟩) (fun i hi => ?_) ⟨?_, ?_, ?_⟩, hN.tp (tpS_i _ _ _) rfl ⟨n + 20, hc, tpS_0 _ _ _⟩ (fun c x y => ⟨r5 c (by omega) (by omega) (by omega), by rw [r6]⟩) (fun i hi => ?_) ⟨?_, ?_, ?_⟩, fun c hc => ⟨A5.2.2.2.1 c (by omega) (by omega), by rw [A5.2.2.2.2]⟩, fun c hc => ⟨r5 c (by omega) (by omega) (by omega), by rw [r6]⟩⟩
    · rw [tpS_5, A5.2.1 i, (hM.2.2.2.1 i hi).1]
      refine ⟨rfl, ?_⟩
      by_cases e0 : n ≤ i ∧ i < n + 20
      · rw [if_pos e0]; exact bt_Bt _ _
      · rw [if_neg e0]; exact (hM.2.2.2.1 i hi).2
    · rw [tpS_0]; exact A5.1
    · rw [tpS_6 _ _ _ (by decide), A5.2.2.1 2 (by decide)]; exact hM.2.2.2.2.1.2.1
    · rw [tpS_6 _ _ _ (by decide), A5.2.2.1 3 (by decide)]; exact hM.2.2.2.2.1.2.2
    · rw [tpS_5, r2 i, hN.2.2.1 i hi]
    · rw [tpS_0]; exact r3
    · rw [tpS_6 _ _ _ (by decide), r4 12 (by decide)]; exact hN.2.2.2.1.2.1
    · rw [tpS_6 _ _ _ (by decide), r4 13 (by decide)]; exact hN.2.2.2.1.2.2
  · have hcc : ¬ nI (n + 20) ≤ (800 : Int32) := nI_ge (a := 800) (b := n + 20) (by omega) (by omega)
    unfold fX9_feed fX10_feed
    rw [show M.1 (0 + 1) 1 = nI n from h1, h2, show nI n + 20 = nI (n + 20) from nI_add n 20, if_neg hcc, if_neg hcc]
    exact ⟨_, M, N, S, rfl, rfl, hM, hN, FrCl.rf, FrRf.rf⟩
end Meth5
