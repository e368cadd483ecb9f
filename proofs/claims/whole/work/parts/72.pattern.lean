/-! Patterns: public methods round, learnt, learns. -/
section Pattern
variable {S : St} {M N : Mem} {W : Wd}
def bp (x j : Nat) : Int32 := nI (x / 2 ^ j % 2)
theorem bp_e {x j : Nat} (hx : x < 2 ^ 31) (hj : j < 32) : (nI x >>> (nI j &&& 31)) &&& (1 : Int32) = bp x j := by
  rw [nI_shr hx hj, show (1 : Int32) = nI (2 ^ 1 - 1) from rfl, nI_mask]; rfl
theorem bp_01 (x j : Nat) : bp x j = 0 ∨ bp x j = 1 := by
  unfold bp
  have h : x / 2 ^ j % 2 = 0 ∨ x / 2 ^ j % 2 = 1 := by omega
  cases h with
  | inl e => left; rw [e]; rfl
  | inr e => right; rw [e]; rfl
def pS (cf : Cfg) (a x n : Nat) : Nat → GS × Nat
  | 0 => (g0S, 0)
  | q + 1 => nxS cf (pS cf a x n q) (a, bp x (q % n))
theorem pS_ok {cf : Cfg} (hc : CfgOk cf) (a x n q : Nat) : GI (pS cf a x n q).1 ∧ GZ (pS cf a x n q).1 ∧ (pS cf a x n q).2 < 2 ^ 40 := by
  induction q with
  | zero => exact ⟨g0_i, g0_z, (by decide : (0 : Nat) < 2 ^ 40)⟩
  | succ q ih => exact ⟨ln_i hc ih.1, ln_z hc ih.2.1, Nat.mod_lt _ (by omega)⟩
theorem pS_s {cf : Cfg} {a x n r j : Nat} (hj : j < n) : pS cf a x n (n * r + (j + 1)) = (lnS cf (pS cf a x n (n * r + j)).1 (pS cf a x n (n * r + j)).2 a (bp x j), paS (pS cf a x n (n * r + j)).2 (bp x j)) := by
  have e : (n * r + j) % n = j := by rw [Nat.mul_add_mod, Nat.mod_eq_of_lt hj]
  show nxS cf (pS cf a x n (n * r + j)) (a, bp x ((n * r + j) % n)) = _
  rw [e]; rfl
def wcS (cf : Cfg) (a x n r : Nat) : Nat → Nat
  | 0 => 0
  | j + 1 => wcS cf a x n r j + if anS cf (pS cf a x n (n * r + j)).1 (pS cf a x n (n * r + j)).2 a = bp x j then 0 else 1
theorem wc_le (cf : Cfg) (a x n r j : Nat) : wcS cf a x n r j ≤ j := by
  induction j with
  | zero => exact Nat.le_refl _
  | succ j ih =>
    unfold wcS
    split <;> omega
theorem JC.w75 (h : JC S M) {M' : Mem} (f : ∀ c, ¬ c = 75 → M'.1 c = M.1 c) (f2 : M'.2 = M.2) : JC S M' :=
  h.sc (fun c x y z w => ⟨f c (by omega), by rw [f2]⟩) (by rw [vX_fr (fun c x y => f c (by omega))]; exact h.2.1.2.2)
theorem pr32 {cf : Cfg} (hc : CfgOk cf) {a x n r R : Nat} (ha : a < 64) (hx : x < 2 ^ 31) (hn : n ≤ 16) (hr : r < 30) {k14 : Nat → Int32 → Int32 → Int32 → Int32 → Int32 → Mem → Option Mem} : ∀ (m j f : Nat) (M : Mem), j + m = n → m < f → JC S M → GX cf (pS cf a x n (n * r + j)).1 (pS cf a x n (n * r + j)).2 58 M → M.1 75 r = nI (wcS cf a x n r j) → ∃ M', fX9_playRounds_32 k14 f 0 (nI a) (nI x) (nI n) (nI R) (nI r) (nI j) M = k14 0 (nI a) (nI x) (nI n) (nI R) (nI (r + 1)) M' ∧ JC S M' ∧ GX cf (pS cf a x n (n * (r + 1))).1 (pS cf a x n (n * (r + 1))).2 58 M' ∧ M'.1 75 r = nI (wcS cf a x n r n) ∧ (∀ s, ¬ s = r → M'.1 75 s = M.1 75 s) ∧ FrCl M M' := by
  intro m
  induction m with
  | zero =>
    intro j f M hm hf hM hG h75
    have : j = n := by omega
    subst this
    cases f with
    | zero => omega
    | succ f =>
      unfold fX9_playRounds_32
      rw [if_pos (nI_le (Nat.le_refl _) (by omega)), nI_1]
      exact ⟨M, rfl, hM, by rw [Nat.mul_succ]; exact hG, h75, fun _ _ => rfl, FrCl.rf⟩
  | succ m ih =>
    intro j f M hm hf hM hG h75
    cases f with
    | zero => omega
    | succ f =>
      obtain ⟨M1, e1, g1, a1, f1, m1⟩ := askX hc ha hG
      have j1 : JC S M1 := hM.rv f1 (by rw [g1.2.2.1]; exact (pS_ok hc _ _ _ _).2.1)
      have h751 : M1.1 75 = M.1 75 := (f1 75 (by omega)).1
      unfold fX9_playRounds_32 fX9_playRounds_70
      simp only [Nat.zero_add]
      rw [if_neg (nI_ge (by omega) (by omega)), e1, bI_s, bp_e hx (by omega), ib_n hr (by omega), ck_t, ck_t, tn_n (by omega), nI_1]
      have step : ∀ (M2 : Mem), (∀ c, ¬ c = 75 → M2.1 c = M1.1 c) → M2.2 = M1.2 → M2.1 75 r = nI (wcS cf a x n r (j + 1)) → (∀ s, ¬ s = r → M2.1 75 s = M.1 75 s) → ∃ M', (bV (fX1_learn 58 (bp x j) M2) fun M3 => fX9_playRounds_32 k14 f 0 (nI a) (nI x) (nI n) (nI R) (nI r) (nI (j + 1)) M3) = k14 0 (nI a) (nI x) (nI n) (nI R) (nI (r + 1)) M' ∧ JC S M' ∧ GX cf (pS cf a x n (n * (r + 1))).1 (pS cf a x n (n * (r + 1))).2 58 M' ∧ M'.1 75 r = nI (wcS cf a x n r n) ∧ (∀ s, ¬ s = r → M'.1 75 s = M.1 75 s) ∧ FrCl M M' := by
        intro M2 q1 q2 q3 q4
        have g2 := g1.fr (fun c x y => q1 c (by omega)) (by rw [q2])
        have a2 : AX cf (pS cf a x n (n * r + j)).1 (pS cf a x n (n * r + j)).2 a 58 M2 := by
          unfold AX PLX at *
          rw [q1 58 (by decide), q1 (58 + 1) (by decide), q1 (58 + 16) (by decide), q1 (58 + 14) (by decide), q1 (58 + 1 + 6) (by decide)]
          exact a1
        obtain ⟨M3, e3, g3, f3, m3⟩ := learnX hc ha (bp_01 x j) g2 a2
        rw [e3, bV_s]
        have g3' : GX cf (pS cf a x n (n * r + (j + 1))).1 (pS cf a x n (n * r + (j + 1))).2 58 M3 := by rw [pS_s (by omega)]; exact g3
        have j2 : JC S M2 := j1.w75 q1 q2
        have h753 : M3.1 75 = M2.1 75 := (f3 75 (by omega)).1
        obtain ⟨M', b1, b2, b3, b4, b5, b6⟩ := ih (j + 1) f M3 (by omega) (by omega) (j2.rv f3 (by rw [g3'.2.2.1]; exact (pS_ok hc _ _ _ _).2.1)) g3' (by rw [h753]; exact q3)
        exact ⟨M', b1, b2, b3, b4, fun s hs => by rw [b5 s hs, h753, q4 s hs], (((f1.cl (by omega)).tr (fun c hc => ⟨q1 c (by omega), by rw [q2]⟩)).tr (f3.cl (by omega))).tr b6⟩
      by_cases hq : anS cf (pS cf a x n (n * r + j)).1 (pS cf a x n (n * r + j)).2 a = bp x j
      · rw [if_pos hq]
        exact step M1 (fun _ _ => rfl) rfl (by unfold wcS; rw [if_pos hq, h751]; exact h75) (fun s _ => by rw [h751])
      · rw [if_neg hq]
        exact step _ (fun c hc => (pI_o c hc).1) rfl (by unfold wcS; rw [if_neg hq, pI_1, if_pos rfl, if_pos rfl, h751, h75, nI_1]) (fun s hs => by rw [pI_1, if_pos rfl, if_neg hs, h751])
theorem pr14 {cf : Cfg} (hc : CfgOk cf) {a x n R : Nat} (ha : a < 64) (hx : x < 2 ^ 31) (hn : n ≤ 16) (hR : R ≤ 30) : ∀ (m r f : Nat) (M : Mem), r + m = R → m < f → JC S M → GX cf (pS cf a x n (n * r)).1 (pS cf a x n (n * r)).2 58 M → (∀ s, s < r → M.1 75 s = nI (wcS cf a x n s n)) → ∃ M', fX9_playRounds_14 f 0 (nI a) (nI x) (nI n) (nI R) (nI r) M = some M' ∧ JC S M' ∧ (∀ s, s < R → M'.1 75 s = nI (wcS cf a x n s n)) ∧ FrCl M M' := by
  intro m
  induction m with
  | zero =>
    intro r f M hm hf hM hG h75
    have : r = R := by omega
    subst this
    cases f with
    | zero => omega
    | succ f =>
      unfold fX9_playRounds_14
      rw [if_pos (nI_le (Nat.le_refl _) (by omega))]
      exact ⟨M, rfl, hM, h75, FrCl.rf⟩
  | succ m ih =>
    intro r f M hm hf hM hG h75
    cases f with
    | zero => omega
    | succ f =>
      unfold fX9_playRounds_14
      simp only [Nat.zero_add]
      rw [if_neg (nI_ge (by omega) (by omega)), ib_n (show r < 30 by omega) (by omega), ck_t, tn_n (by omega)]
      have q1 : ∀ c, ¬ c = 75 → (pI M 75 r 0).1 c = M.1 c := fun c hc => (pI_o c hc).1
      obtain ⟨M1, e1, j1, g1, w1, o1, f1⟩ := pr32 (S := S) hc (R := R) ha hx hn (show r < 30 by omega) (k14 := fX9_playRounds_14 f) n 0 LF (pI M 75 r 0) (by omega) (by unfold LF; omega) (hM.w75 q1 rfl) (hG.fr (fun c x y => q1 c (by omega)) rfl) (by rw [pI_1, if_pos rfl, if_pos rfl]; rfl)
      rw [show fX9_playRounds_32 (fX9_playRounds_14 f) LF 0 (nI a) (nI x) (nI n) (nI R) (nI r) 0 (pI M 75 r 0) = _ from e1]
      obtain ⟨M2, e2, j2, w2, f2⟩ := ih (r + 1) f M1 (by omega) (by omega) j1 g1 (fun s hs => by
        by_cases e : s = r
        · subst e; exact w1
        · rw [o1 s e, pI_1, if_pos rfl, if_neg e]; exact h75 s (by omega))
      exact ⟨M2, e2, j2, w2, (FrCl.tr (fun c hc => pI_o c (by omega)) f1).tr f2⟩
theorem playRX (hM : JC S M) (hp : pgS (S.1 0) = true) {a x n R : Nat} (ha : a < 64) (hx : x < 2 ^ 31) (hn : n ≤ 16) (hR : R ≤ 30) : ∃ M', fX9_playRounds 0 (nI a) (nI x) (nI n) (nI R) M = some M' ∧ JC S M' ∧ (∀ s, s < R → M'.1 75 s = nI (wcS (cfW (S.1 0)) a x n s n)) ∧ FrCl M M' := by
  have hH := hM.w.2.1 hp
  unfold fX9_playRounds
  simp only [Nat.zero_add]
  obtain ⟨M1, e1, g1, v1, m1, f1⟩ := setAsX (o := 58) (q := 9) (M := M) rfl (by omega) hM.w.1 hM.1.2.1 hM.2.1.2.2
  rw [e1, bV_s]
  obtain ⟨M2, e2, j2, w2, f2⟩ := pr14 (S := S) hH.2.2 ha hx hn hR R 0 LF M1 (by omega) (by unfold LF; omega) (hM.rv f1 (by rw [v1]; exact g0_z)) (g1 hH) (fun s hs => by omega)
  exact ⟨M2, e2, j2, w2, (f1.cl (by omega)).tr f2⟩
-- the reference's side
def Q33 (N N' : Mem) : Prop := (∀ c, ¬ c = 113 → N'.1 c = N.1 c) ∧ N'.2 = N.2
theorem GM.q33 {cf : Cfg} {g : GS} {p : Nat} {N' : Mem} (h : GM cf g p 80 N) (q : Q33 N N') : GM cf g p 80 N' := by
  obtain ⟨k, v, l, b⟩ := h
  refine ⟨?_, ?_, by rw [q.2]; exact l, b⟩
  · unfold KM at *
    rw [q.1 (80 + 1) (by decide), q.1 80 (by decide), q.1 (80 + 12) (by decide)]; exact k
  · rw [← v]
    funext i
    unfold vM
    split <;> first | rfl | exact q.1 _ (by decide) | (funext _; rw [q.1 _ (by decide)])
theorem AM.q33 {cf : Cfg} {g : GS} {p a : Nat} {N' : Mem} (h : AM cf g p a 80 N) (q : Q33 N N') : AM cf g p a 80 N' := by
  obtain ⟨t, r⟩ := h
  refine ⟨t.mv (q.1 _ (by decide)) (q.1 _ (by decide)) (fun k _ _ => by rw [q.1 80 (by decide)]), ?_⟩
  rw [q.1 (80 + 25) (by decide), q.1 80 (by decide)]; exact r
theorem FrJ.q33 {N' : Mem} (q : Q33 N N') : FrJ N N' := ⟨fun c hc => ⟨q.1 c (by omega), by rw [q.2]⟩, by rw [q.1 80 (by decide)], by rw [q.1 80 (by decide)], by rw [q.1 80 (by decide)]⟩
theorem Q33.pI (r : Nat) (v : Int32) : Q33 N (pI N 113 r v) := ⟨fun c hc => (pI_o c hc).1, rfl⟩
theorem pp25 {cf : Cfg} (hc : CfgOk cf) {a x n r : Nat} (ha : a < 64) (hx : x < 2 ^ 31) (hn : n ≤ 16) (hr : r < 30) {k7 : Nat → Int32 → Int32 → Int32 → Int32 → Mem → Option Mem} : ∀ (m j f : Nat) (N : Mem), j + m = n → m < f → GM cf (pS cf a x n (n * r + j)).1 (pS cf a x n (n * r + j)).2 80 N → N.1 113 r = nI (wcS cf a x n r j) → ∃ N', fX10_playPattern_25 k7 f 80 (nI a) (nI x) (nI n) (nI r) (nI j) N = k7 80 (nI a) (nI x) (nI n) (nI (r + 1)) N' ∧ GM cf (pS cf a x n (n * (r + 1))).1 (pS cf a x n (n * (r + 1))).2 80 N' ∧ N'.1 113 r = nI (wcS cf a x n r n) ∧ (∀ s, ¬ s = r → N'.1 113 s = N.1 113 s) ∧ FrJ N N' := by
  intro m
  induction m with
  | zero =>
    intro j f N hm hf hG h75
    have : j = n := by omega
    subst this
    cases f with
    | zero => omega
    | succ f =>
      unfold fX10_playPattern_25
      rw [if_pos (nI_le (Nat.le_refl _) (by omega)), nI_1]
      exact ⟨N, rfl, by rw [Nat.mul_succ]; exact hG, h75, fun _ _ => rfl, FrJ.rf⟩
  | succ m ih =>
    intro j f N hm hf hG h75
    cases f with
    | zero => omega
    | succ f =>
      obtain ⟨N1, e1, q1, g1, a1⟩ := askM hc ha (pS_ok hc a x n (n * r + j)).1 hG
      have h751 : N1.1 113 = N.1 113 := q1.1 113 (by decide) (by decide)
      unfold fX10_playPattern_25 fX10_playPattern_66
      rw [if_neg (nI_ge (by omega) (by omega)), e1, bV_s, bp_e hx (by omega), ib_n hr (by omega), ck_t, ck_t, tn_n (by omega), nI_1, a1.2.2.2.2.2.2.1, ck_t]
      have step : ∀ (N2 : Mem), Q33 N1 N2 → N2.1 113 r = nI (wcS cf a x n r (j + 1)) → (∀ s, ¬ s = r → N2.1 113 s = N.1 113 s) → ∃ N', (bV (fX10_learn 80 (bp x j) N2) fun M1 => fX10_playPattern_25 k7 f 80 (nI a) (nI x) (nI n) (nI r) (nI (j + 1)) M1) = k7 80 (nI a) (nI x) (nI n) (nI (r + 1)) N' ∧ GM cf (pS cf a x n (n * (r + 1))).1 (pS cf a x n (n * (r + 1))).2 80 N' ∧ N'.1 113 r = nI (wcS cf a x n r n) ∧ (∀ s, ¬ s = r → N'.1 113 s = N.1 113 s) ∧ FrJ N N' := by
        intro N2 q2 q3 q4
        obtain ⟨N3, e3, G3, f3, f4, f5⟩ := learnM hc ha (bp_01 x j) (pS_ok hc a x n (n * r + j)).1 (g1.q33 q2) (a1.q33 q2)
        rw [e3, bV_s]
        have fr23 : FrM 80 N2 N3 := ⟨fun c a b => f3 c a (by omega), fun k hk => f4 k (by omega), f5⟩
        have h753 : N3.1 113 = N2.1 113 := f3 113 (by decide) (by decide)
        obtain ⟨N', b1, b2, b3, b4, b5⟩ := ih (j + 1) f N3 (by omega) (by omega) (by rw [pS_s (by omega)]; exact G3) (by rw [h753]; exact q3)
        exact ⟨N', b1, b2, b3, fun s hs => by rw [b4 s hs, h753, q4 s hs], ((q1.fr.k.j.tr (FrJ.q33 q2)).tr fr23.k.j).tr b5⟩
      by_cases hq : anS cf (pS cf a x n (n * r + j)).1 (pS cf a x n (n * r + j)).2 a = bp x j
      · rw [if_pos hq]
        exact step _ (Q33.pI r _) (by unfold wcS; rw [if_pos hq, pI_1, if_pos rfl, if_pos rfl, h751, h75, Int32.add_zero]; rfl) (fun s hs => by rw [pI_1, if_pos rfl, if_neg hs, h751])
      · rw [if_neg hq]
        exact step _ (Q33.pI r _) (by unfold wcS; rw [if_neg hq, pI_1, if_pos rfl, if_pos rfl, h751, h75, nI_1]) (fun s hs => by rw [pI_1, if_pos rfl, if_neg hs, h751])
theorem pp7 {cf : Cfg} (hc : CfgOk cf) {a x n : Nat} (ha : a < 64) (hx : x < 2 ^ 31) (hn : n ≤ 16) : ∀ (m r f : Nat) (N : Mem), r + m = 30 → m < f → GM cf (pS cf a x n (n * r)).1 (pS cf a x n (n * r)).2 80 N → (∀ s, s < r → N.1 113 s = nI (wcS cf a x n s n)) → ∃ N', fX10_playPattern_7 f 80 (nI a) (nI x) (nI n) (nI r) N = some N' ∧ GM cf (pS cf a x n (n * 30)).1 (pS cf a x n (n * 30)).2 80 N' ∧ (∀ s, s < 30 → N'.1 113 s = nI (wcS cf a x n s n)) ∧ FrJ N N' := by
  intro m
  induction m with
  | zero =>
    intro r f N hm hf hG h75
    have : r = 30 := by omega
    subst this
    cases f with
    | zero => omega
    | succ f =>
      unfold fX10_playPattern_7
      rw [if_pos (show (30 : Int32) ≤ nI 30 from nI_le (a := 30) (b := 30) (by omega) (by omega))]
      exact ⟨N, rfl, hG, h75, FrJ.rf⟩
  | succ m ih =>
    intro r f N hm hf hG h75
    cases f with
    | zero => omega
    | succ f =>
      unfold fX10_playPattern_7
      rw [if_neg (show ¬ (30 : Int32) ≤ nI r from nI_ge (b := 30) (by omega) (by omega)), ib_n (show r < 30 by omega) (by omega), ck_t, tn_n (by omega)]
      obtain ⟨N1, e1, g1, w1, o1, f1⟩ := pp25 hc ha hx hn (show r < 30 by omega) (k7 := fX10_playPattern_7 f) n 0 LF (pI N 113 r 0) (by omega) (by unfold LF; omega) (hG.q33 (Q33.pI r 0)) (by rw [pI_1, if_pos rfl, if_pos rfl]; rfl)
      rw [show fX10_playPattern_25 (fX10_playPattern_7 f) LF 80 (nI a) (nI x) (nI n) (nI r) 0 (pI N (80 + 33) r 0) = _ from e1]
      obtain ⟨N2, e2, g2, w2, f2⟩ := ih (r + 1) f N1 (by omega) (by omega) g1 (fun s hs => by
        by_cases e : s = r
        · subst e; exact w1
        · rw [o1 s e, pI_1, if_pos rfl, if_neg e]; exact h75 s (by omega))
      exact ⟨N2, e2, g2, w2, ((FrJ.q33 (Q33.pI r 0)).tr f1).tr f2⟩
theorem playPM {cf : Cfg} (hc : CfgOk cf) {a x n : Nat} (ha : a < 64) (hx : x < 2 ^ 31) (hn : n ≤ 16) (hK : KM cf 80 N) (hz : GZ (vM 80 N)) : ∃ N', fX10_playPattern 80 (nI a) (nI x) (nI n) N = some N' ∧ KM cf 80 N' ∧ GZ (vM 80 N') ∧ (∀ s, s < 30 → N'.1 113 s = nI (wcS cf a x n s n)) ∧ FrJ N N' := by
  obtain ⟨N1, e1, f1, v1, p1⟩ := beginM (o := 80) hz
  unfold fX10_playPattern
  rw [e1, bV_s]
  obtain ⟨N2, e2, g2, w2, f2⟩ := pp7 hc ha hx hn 30 0 LF N1 (by omega) (by unfold LF; omega) ⟨hK.fr f1, v1, p1, (show (0 : Nat) < 2 ^ 40 by decide)⟩ (fun s hs => by omega)
  exact ⟨N2, e2, g2.1, by rw [g2.2.1]; exact (pS_ok hc _ _ _ _).2.1, w2, f1.k.j.tr f2⟩
-- what is read off the rounds
theorem lrn {w : Nat → Nat} (hw : ∀ s, w s < 2 ^ 31) (hM : ∀ s, s < 30 → M.1 75 s = nI (w s)) (hN : ∀ s, s < 30 → N.1 113 s = nI (w s)) : ∀ (x f f' : Nat), x ≤ 29 → x < f → x < f' → ∃ y, y ≤ 29 ∧ fX9_firstRightRound_15 f 0 (nI x) M = some (nI y, M) ∧ fX10_learntNow_3 f' 80 (nI x) N = some (nI y, N) := by
  have n30 : ∀ x, x ≤ 29 → ¬ nI x = (30 : Int32) := fun x hx => kE (n := 30) (by omega) (by omega) (by omega)
  intro x
  induction x with
  | zero =>
    intro f f' hx hf hf'
    cases f with
    | zero => omega
    | succ f =>
    cases f' with
    | zero => omega
    | succ f' =>
      unfold fX9_firstRightRound_15 fX10_learntNow_3 fX10_learntNow_24
      rw [if_pos (show nI 0 ≤ (0 : Int32) by decide), if_pos (show nI 0 ≤ (0 : Int32) by decide), if_neg (n30 0 (by omega))]
      exact ⟨0, by omega, rfl, rfl⟩
  | succ x ih =>
    intro f f' hx hf hf'
    cases f with
    | zero => omega
    | succ f =>
    cases f' with
    | zero => omega
    | succ f' =>
      obtain ⟨y, hy, e1, e2⟩ := ih f f' (by omega) (by omega) (by omega)
      have em : nI (x + 1) + (-1 : Int32) = nI x := by
        have h : nI (x + 1) - 1 = nI x := pk_sub (a := x + 1) (b := 1) (by omega)
        rw [← h, Int32.sub_eq_add_neg]
      unfold fX9_firstRightRound_15 fX10_learntNow_3 fX10_learntNow_24
      simp only [Nat.zero_add]
      rw [if_neg (show ¬ nI (x + 1) ≤ (0 : Int32) from nI_ge (a := 0) (by omega) (by omega)), if_neg (show ¬ nI (x + 1) ≤ (0 : Int32) from nI_ge (a := 0) (by omega) (by omega)), show nI (x + 1) - 1 = nI x from pk_sub (a := x + 1) (b := 1) (by omega), ib_n (show x < 30 by omega) (by omega), ck_t, ck_t, tn_n (by omega), hM x (by omega), show N.1 (80 + 33) x = _ from hN x (by omega), em, e1, e2, if_neg (n30 (x + 1) (by omega))]
      by_cases h0 : nI (w x) = 0
      · rw [if_pos h0, if_pos h0]; exact ⟨y, hy, rfl, rfl⟩
      · rw [if_neg h0, if_neg h0]; exact ⟨x + 1, by omega, rfl, rfl⟩
theorem lrn0 {w : Nat → Nat} (hw : ∀ s, w s < 2 ^ 31) (hM : ∀ s, s < 30 → M.1 75 s = nI (w s)) (hN : ∀ s, s < 30 → N.1 113 s = nI (w s)) : ∃ v, fX9_firstRightRound 0 M = some (v, M) ∧ fX10_learntNow 80 N = some (v, N) ∧ (v = -1 ↔ ¬ w 29 = 0) := by
  obtain ⟨y, hy, e1, e2⟩ := lrn hw hM hN 29 LF 99999 (by omega) (by unfold LF; omega) (by omega)
  have e3 : fX10_learntNow 80 N = (if (30 : Int32) ≤ 0 then fX10_learntNow_24 30 N else ck (ib ((30 : Int32) - 1) 30) (if (N.1 (80 + 33) (tn ((30 : Int32) - 1))) = 0 then fX10_learntNow_3 99999 80 ((30 : Int32) + (-1)) N else fX10_learntNow_24 30 N)) := rfl
  have e4 : fX9_firstRightRound 0 M = ck (ib (29 : Int32) 30) (if (M.1 (0 + 75) (tn (29 : Int32))) ≤ 0 then fX9_firstRightRound_15 LF 0 (29 : Int32) M else some ((-1 : Int32), M)) := rfl
  rw [e3, e4, if_neg (show ¬ (30 : Int32) ≤ 0 by decide), show ib ((30 : Int32) - 1) 30 = true from rfl, show ib (29 : Int32) 30 = true from rfl, ck_t, ck_t, show tn ((30 : Int32) - 1) = 29 from rfl, show tn (29 : Int32) = 29 from rfl, show M.1 (0 + 75) 29 = _ from hM 29 (by omega), show N.1 (80 + 33) 29 = _ from hN 29 (by omega)]
  by_cases h0 : w 29 = 0
  · rw [h0, if_pos (by decide), if_pos (by decide), show fX9_firstRightRound_15 LF 0 29 M = _ from e1, show fX10_learntNow_3 99999 80 ((30 : Int32) + (-1)) N = _ from e2]
    refine ⟨nI y, rfl, rfl, ⟨fun h => ?_, fun h => absurd rfl h⟩⟩
    have := congrArg Int32.toInt h
    rw [nI_toInt (by omega)] at this
    have h2 : (-1 : Int32).toInt = -1 := rfl
    omega
  · have h1 := hw 29
    rw [if_neg (show ¬ nI (w 29) ≤ (0 : Int32) from nI_ge (a := 0) (by omega) (by omega)), if_neg (show ¬ nI (w 29) = (0 : Int32) from kE (n := 0) (by omega) (by omega) h0)]
    exact ⟨-1, rfl, rfl, ⟨fun _ => h0, fun _ => rfl⟩⟩
theorem wc_lt (cf : Cfg) (a x n s : Nat) (hn : n ≤ 16) : wcS cf a x n s n < 2 ^ 31 := by
  have := wc_le cf a x n s n
  omega
-- whether a pattern is one, on both sides
theorem patE (hM : JC S M) (hN : JR S N) (x y z : Int32) : ∃ b N1, fX9_isPattern 0 x y z M = some (wkI b, M) ∧ fX10_asksPattern 80 x y z N = some (wkI b, N1) ∧ JR S N1 ∧ FrJ N N1 ∧ (b = true → pgS (S.1 0) = true ∧ ∃ a p n, a < 64 ∧ p < 2 ^ 31 ∧ n ≤ 16 ∧ x = nI a ∧ y = nI p ∧ z = nI n ∧ ∀ s, s < 30 → N1.1 113 s = nI (wcS (cfW (S.1 0)) a p n s n)) := by
  unfold fX9_isPattern fX10_asksPattern
  obtain ⟨N1, e1, l1, k1, f1, c1, o1, m1⟩ := laysM (o := 80) hN.w.1 rfl hN.1.2.1
  have z1 : GZ (vM 80 N1) := by rw [vM_mv c1 o1]; exact hN.1.2.2
  have j1 : JR S N1 := hN.j f1.j z1
  rw [toldX hM, bI_s, e1, bI_s]
  by_cases hp : pgS (S.1 0) = true
  · have hH := hM.w.2.1 hp
    rw [wif_t hp, wif_t hp, adrX, bI_s, adrM, bI_s]
    by_cases hx : inS x 0 63 = true
    · obtain ⟨a, ha, ea⟩ := in_63 hx
      rw [wif_t hx, wif_t hx, wX z 1 16 1 16 rfl rfl, bI_s, wM z 1 16 1 16 rfl rfl, bI_s]
      by_cases hz : inS z 1 16 = true
      · obtain ⟨n, n1, n2, en⟩ := in_ab (a := 1) (b := 16) (by omega) (by omega) hz
        unfold fX9_lowest
        rw [wif_t hz, wif_t hz, en, bI_s, low32 (by omega), wX0, bI_s, wM0, bI_s]
        by_cases hy : inS y 0 (nI (2 ^ n - 1)) = true
        · have h2 : 2 ^ n ≤ 2 ^ 16 := Nat.pow_le_pow_right (by omega) n2
          obtain ⟨p, hp1, ep⟩ := in_n (by omega) hy
          obtain ⟨N2, b1, b2, b3, b4, b5⟩ := playPM hH.2.2 ha (x := p) (n := n) (by omega) n2 (k1 hH) z1
          rw [wif_t hy, wif_t hy, ea, ep, b1, bV_s]
          exact ⟨true, N2, rfl, rfl, j1.j b5 b3, f1.j.tr b5, fun _ => ⟨hp, a, p, n, ha, by omega, n2, rfl, rfl, rfl, b4⟩⟩
        · rw [wif_f hy, wif_f hy]
          exact ⟨false, N1, rfl, rfl, j1, f1.j, fun h => by cases h⟩
      · rw [wif_f hz, wif_f hz]
        exact ⟨false, N1, rfl, rfl, j1, f1.j, fun h => by cases h⟩
    · rw [wif_f hx, wif_f hx]
      exact ⟨false, N1, rfl, rfl, j1, f1.j, fun h => by cases h⟩
  · rw [wif_f hp, wif_f hp]
    exact ⟨false, N1, rfl, rfl, j1, f1.j, fun h => by cases h⟩
theorem m_round (x y z t : Int32) : Eq2 S (fX9_round 0 x y z t) (fX10_round 80 x y z t) := by
  intro M N hM hN
  unfold fX9_round fX10_round
  obtain ⟨b, N1, e1, e2, j1, f1, h⟩ := patE hM hN x y z
  rw [e1, bI_s, wM t 0 29 0 29 rfl rfl, bI_s]
  by_cases ht : inS t 0 29 = true
  · obtain ⟨r, hr, er⟩ := in_n (n := 29) (by omega) ht
    rw [wif_t ht, e2, bI_s]
    by_cases hb : b = true
    · obtain ⟨hp, a, p, n, ha, hpp, hn, ex, ey, ez, w⟩ := h hb
      obtain ⟨M1, a1, a2, a3, a4⟩ := playRX hM hp (a := a) (x := p) (n := n) (R := r + 1) ha hpp hn (by omega)
      subst ex ey ez er
      rw [wif_t hb, wif_t hb, wX _ 0 29 0 29 rfl rfl, bI_s, wif_t ht, nI_1, a1, bV_s, ib_n (show r < 30 by omega) (by omega), ck_t, ck_t, tn_n (by omega), show M1.1 (0 + 75) r = _ from a3 r (by omega), show N1.1 (80 + 33) r = _ from w r (by omega)]
      exact ⟨_, M1, N1, S, rfl, rfl, a2, j1, a4, f1.rfr⟩
    · rw [wif_f hb, wif_f hb]
      exact ⟨_, M, N1, S, rfl, rfl, hM, j1, FrCl.rf, f1.rfr⟩
  · rw [wif_f ht]
    by_cases hb : b = true
    · rw [wif_t hb, wX _ 0 29 0 29 rfl rfl, bI_s, wif_f ht]
      exact ⟨_, M, N, S, rfl, rfl, hM, hN, FrCl.rf, FrRf.rf⟩
    · rw [wif_f hb]
      exact ⟨_, M, N, S, rfl, rfl, hM, hN, FrCl.rf, FrRf.rf⟩
theorem m_learnt (x y z : Int32) : Eq2 S (fX9_learnt 0 x y z) (fX10_learnt 80 x y z) := by
  intro M N hM hN
  unfold fX9_learnt fX10_learnt
  obtain ⟨b, N1, e1, e2, j1, f1, h⟩ := patE hM hN x y z
  rw [e1, bI_s, e2, bI_s]
  by_cases hb : b = true
  · obtain ⟨hp, a, p, n, ha, hpp, hn, ex, ey, ez, w⟩ := h hb
    obtain ⟨M1, a1, a2, a3, a4⟩ := playRX hM hp (a := a) (x := p) (n := n) (R := 30) ha hpp hn (by omega)
    subst ex ey ez
    obtain ⟨v, c1, c2, -⟩ := lrn0 (fun s => wc_lt (cfW (S.1 0)) a p n s hn) a3 w
    rw [wif_t hb, wif_t hb, show fX9_playRounds 0 (nI a) (nI p) (nI n) 30 M = _ from a1, bV_s, c1, bI_s, c2, bI_s]
    exact ⟨_, M1, N1, S, rfl, rfl, a2, j1, a4, f1.rfr⟩
  · rw [wif_f hb, wif_f hb]
    exact ⟨_, M, N1, S, rfl, rfl, hM, j1, FrCl.rf, f1.rfr⟩
theorem l_lrs (hp : pgS (S.1 0) = true) {a n : Nat} (ha : a < 64) (hn : n ≤ 5) : ∀ (m x f f' k : Nat) (M N : Mem), x + m = 2 ^ n → m < f → m < f' → JC S M → KM (cfW (S.1 0)) 80 N → GZ (vM 80 N) → ∃ v M' N', fX9_learns_34 f 0 (nI a) (nI n) (nI k) (nI x) M = some (v, M') ∧ fX10_learns_35 f' 80 (nI a) (nI n) (nI k) (nI x) N = some (v, N') ∧ JC S M' ∧ FrCl M M' ∧ FrJ N N' ∧ GZ (vM 80 N') := by
  have h2 : 2 ^ n ≤ 2 ^ 5 := Nat.pow_le_pow_right (by omega) hn
  have h0 := Nat.two_pow_pos n
  intro m
  induction m with
  | zero =>
    intro x f f' k M N hm hf hf' hM hK hz
    cases f with
    | zero => omega
    | succ f =>
    cases f' with
    | zero => omega
    | succ f' =>
      unfold fX9_learns_34 fX10_learns_35 fX9_lowest
      rw [bI_s, low32 (by omega), shl32 n (by omega), if_pos (nI_lt (by omega) (by omega)), if_pos (nI_le (by omega) (by omega))]
      exact ⟨_, M, N, rfl, rfl, hM, FrCl.rf, FrJ.rf, hz⟩
  | succ m ih =>
    intro x f f' k M N hm hf hf' hM hK hz
    cases f with
    | zero => omega
    | succ f =>
    cases f' with
    | zero => omega
    | succ f' =>
      have hH := hM.w.2.1 hp
      obtain ⟨M1, a1, a2, a3, a4⟩ := playRX hM hp (a := a) (x := x) (n := n) (R := 30) ha (by omega) (by omega) (by omega)
      obtain ⟨N1, b1, b2, b3, b4, b5⟩ := playPM hH.2.2 ha (x := x) (n := n) (by omega) (by omega) hK hz
      obtain ⟨v, c1, c2, c3⟩ := lrn0 (fun s => wc_lt (cfW (S.1 0)) a x n s (by omega)) a3 b4
      unfold fX9_learns_34 fX10_learns_35 fX9_lowest fX9_learns_66 fX10_learns_65
      rw [bI_s, low32 (by omega), shl32 n (by omega), if_neg (nI_nlt (by omega) (by omega)), if_neg (nI_ge (by omega) (by omega)), show fX9_playRounds 0 (nI a) (nI x) (nI n) 30 M = _ from a1, bV_s, b1, bV_s, c2, bI_s, show ib (29 : Int32) 30 = true from rfl, ck_t, show tn (29 : Int32) = 29 from rfl, show M1.1 (0 + 75) 29 = _ from a3 29 (by omega), nI_1, nI_1, Int32.add_zero]
      by_cases h0 : wcS (cfW (S.1 0)) a x n 29 n = 0
      · rw [if_pos (by rw [h0]; rfl), if_neg (fun h => (c3.mp h) h0)]
        obtain ⟨u, M2, N2, d1, d2, d3, d4, d5, d6⟩ := ih (x + 1) f f' (k + 1) M1 N1 (by omega) (by omega) (by omega) a2 b2 b3
        exact ⟨u, M2, N2, d1, d2, d3, a4.tr d4, b5.tr d5, d6⟩
      · rw [if_neg (show ¬ nI (wcS (cfW (S.1 0)) a x n 29 n) = (0 : Int32) from kE (n := 0) (wc_lt _ _ _ _ _ (by omega)) (by omega) h0), if_pos (c3.mpr h0)]
        obtain ⟨u, M2, N2, d1, d2, d3, d4, d5, d6⟩ := ih (x + 1) f f' k M1 N1 (by omega) (by omega) (by omega) a2 b2 b3
        exact ⟨u, M2, N2, d1, d2, d3, a4.tr d4, b5.tr d5, d6⟩
theorem m_learns (x y : Int32) : Eq2 S (fX9_learns 0 x y) (fX10_learns 80 x y) := by
  intro M N hM hN
  unfold fX9_learns fX10_learns
  obtain ⟨N1, e1, l1, k1, f1, c1, o1, m1⟩ := laysM (o := 80) hN.w.1 rfl hN.1.2.1
  have z1 : GZ (vM 80 N1) := by rw [vM_mv c1 o1]; exact hN.1.2.2
  have j1 : JR S N1 := hN.j f1.j z1
  rw [toldX hM, bI_s, e1, bI_s]
  by_cases hp : pgS (S.1 0) = true
  · rw [wif_t hp, wif_t hp, adrX, bI_s, adrM, bI_s]
    by_cases hx : inS x 0 63 = true
    · obtain ⟨a, ha, ea⟩ := in_63 hx
      rw [wif_t hx, wif_t hx, wX y 1 5 1 5 rfl rfl, bI_s, wM y 1 5 1 5 rfl rfl, bI_s]
      by_cases hy : inS y 1 5 = true
      · obtain ⟨n, n1, n2, en⟩ := in_ab (a := 1) (b := 5) (by omega) (by omega) hy
        subst ea en
        have h2 : 2 ^ n ≤ 2 ^ 5 := Nat.pow_le_pow_right (by omega) n2
        obtain ⟨v, M', N', a1, a2, a3, a4, a5, a6⟩ := l_lrs hp ha n2 (2 ^ n) 0 LF LF 0 M N1 (by omega) (by unfold LF; omega) (by unfold LF; omega) hM (k1 (hM.w.2.1 hp)) z1
        rw [wif_t hy, wif_t hy, show fX9_learns_34 LF 0 (nI a) (nI n) 0 0 M = _ from a1, show fX10_learns_35 LF 80 (nI a) (nI n) 0 0 N1 = _ from a2]
        exact ⟨v, M', N', S, rfl, rfl, a3, j1.j a5 a6, a4, (f1.j.tr a5).rfr⟩
      · rw [wif_f hy, wif_f hy]
        exact ⟨_, M, N1, S, rfl, rfl, hM, j1, FrCl.rf, f1.j.rfr⟩
    · rw [wif_f hx, wif_f hx]
      exact ⟨_, M, N1, S, rfl, rfl, hM, j1, FrCl.rf, f1.j.rfr⟩
  · rw [wif_f hp, wif_f hp]
    exact ⟨_, M, N1, S, rfl, rfl, hM, j1, FrCl.rf, f1.j.rfr⟩
end Pattern
