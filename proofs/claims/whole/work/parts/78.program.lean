/-! Public method: program. -/
section Program
variable {S : St} {M N : Mem} {L : Nat}
def cut (R : Wd) : Wd := fun k => if k < 215 then R k else 0
theorem cut_l {R : Wd} {k : Nat} (h : k < 215) : cut R k = R k := by unfold cut; rw [if_pos h]
theorem cut_g {R : Wd} {k : Nat} (h : 215 ≤ k) : cut R k = 0 := by unfold cut; rw [if_neg (by omega)]
theorem pwW {R : Wd} {l t n : Nat} (h : PW R l t n) (hll : l = 1 + t + n) : WOk (cut R) ∧ nT (cut R) = t ∧ nO (cut R) = n ∧ nA (cut R) = 0 := by
  obtain ⟨⟨p6, pt⟩, ⟨p7, pn⟩, p8, p9, ph, ⟨sp, s1, s2⟩, po⟩ := h
  have eT : nT (cut R) = t := by unfold nT; rw [cut_l (by omega), p6, tn_n (by omega)]
  have eO : nO (cut R) = n := by unfold nO; rw [cut_l (by omega), p7, tn_n (by omega)]
  have eA : nA (cut R) = 0 := by unfold nA; rw [cut_l (by omega), p8]; rfl
  have pg : pgS (cut R) = true := by
    unfold pgS
    rw [cut_l (by omega), p9]
    simp only [decide_eq_true_eq]
    exact nI_lt (a := 0) (by omega) (by omega)
  have hd : ∀ i, i < 6 → ∃ q, (hl i ≤ q ∧ q ≤ hm i) ∧ cut R i = nI q ∧ tn (cut R i) = q := fun i hi => by
    obtain ⟨q, q1, q2, q3⟩ := ph i hi
    have := (hlm i).2
    exact ⟨q, ⟨q1, q2⟩, by rw [cut_l (by omega)]; exact q3, by rw [cut_l (by omega), q3, tn_n (by omega)]⟩
  have se : ∀ s, 1 ≤ s → s ≤ t → cut R (9 + s) = nI (sp s) ∧ tn (cut R (9 + s)) = sp s ∧ 1 ≤ sp s ∧ sp s ≤ 40 := fun s x1 x2 => by
    obtain ⟨a, b, c⟩ := s1 s x1 x2
    exact ⟨by rw [cut_l (by omega)]; exact a, by rw [cut_l (by omega), a, tn_n (by omega)], b, c⟩
  have c6 : ∀ k, k < 6 → ¬ k = 3 → ¬ k = 4 → cfW (cut R) k = tn (cut R k) := fun k k1 k2 k3 => by
    unfold cfW; rw [if_neg k2, if_neg k3, if_pos k1]
  refine ⟨⟨⟨⟨by rw [eT, cut_l (by omega)]; exact p6, by omega⟩, ⟨by rw [eO, cut_l (by omega)]; exact p7, by omega⟩, ⟨by rw [eA, cut_l (by omega)]; exact p8, by omega⟩, fun i hi => (po i (by omega)).cg (fun k x1 x2 => cut_l (by omega)), fun i hi => by omega⟩, fun _ => ⟨fun k hk => ?_, fun s x1 x2 => ?_, ?_⟩, fun z => (by rw [pg] at z; cases z), fun k hk => cut_g hk, fun _ => ⟨?_, ?_, fun s x1 x2 => ?_⟩, fun z => (by rw [pg] at z; cases z)⟩, eT, eO, eA⟩
  · obtain ⟨q, -, q2, q3⟩ := hd k hk
    rw [q3]; exact q2
  · obtain ⟨a, b, -⟩ := se s x1 (by omega)
    rw [b]; exact a
  · obtain ⟨q0, ⟨a0, a0'⟩, -, a0''⟩ := hd 0 (by omega)
    obtain ⟨q1, ⟨a1, a1'⟩, -, a1''⟩ := hd 1 (by omega)
    obtain ⟨q2, ⟨a2, a2'⟩, -, a2''⟩ := hd 2 (by omega)
    obtain ⟨q5, ⟨a5, a5'⟩, -, a5''⟩ := hd 5 (by omega)
    unfold CfgOk
    rw [c6 0 (by omega) (by omega) (by omega), c6 1 (by omega) (by omega) (by omega), c6 2 (by omega) (by omega) (by omega), c6 5 (by omega) (by omega) (by omega), a0'', a1'', a2'', a5'', show cfW (cut R) 3 = t by unfold cfW; rw [if_pos rfl]; exact eT, show cfW (cut R) 4 = 0 by unfold cfW; rw [if_neg (by omega), if_pos rfl]]
    have e0 : hl 0 = 1 ∧ hm 0 = 4 ∧ hl 1 = 2 ∧ hm 1 = 6 ∧ hl 2 = 1 ∧ hm 2 = 9 ∧ hm 5 = 7 := by decide
    refine ⟨by omega, by omega, by omega, by omega, by omega, by omega, fun s x1 x2 => ?_⟩
    obtain ⟨-, b, c, d⟩ := se s x1 x2
    have : cfW (cut R) (10 + s) = tn (cut R (9 + s)) := by
      unfold cfW
      rw [if_neg (by omega), if_neg (by omega), if_neg (by omega), if_pos (by omega), show 10 + s - 1 = 9 + s by omega]
    rw [this, b]; exact ⟨c, d⟩
  · obtain ⟨q, ⟨-, q1⟩, -, q3⟩ := hd 3 (by omega)
    have : hm 3 = 20 := by decide
    omega
  · obtain ⟨q, ⟨-, q1⟩, -, q3⟩ := hd 4 (by omega)
    have : hm 4 = 9 := by decide
    omega
  · obtain ⟨-, b, -⟩ := se s x1 (by omega)
    obtain ⟨-, b', -⟩ := se (s + 1) (by omega) (by omega)
    rw [show 10 + s = 9 + (s + 1) by omega, b, b']
    exact s2 s x1 (by omega)
theorem dtW {R : Wd} {t n : Nat} (h : Dt R t n M) (eT : nT (cut R) = t) (eO : nO (cut R) = n) (eA : nA (cut R) = 0) (ht : t ≤ 5) (hn : n ≤ 40) : Tw (cut R) 3 M := by
  obtain ⟨d0, dh, ⟨ds, dz⟩, dk, dn, dm⟩ := h
  unfold Tw Tk
  rw [eT, eO, eA, cut_l (by omega : 9 < 215), cut_l (by omega : 6 < 215), cut_l (by omega : 8 < 215), cut_l (by omega : 7 < 215)]
  refine ⟨⟨d0.1, d0.2.1, d0.2.2.2⟩, fun k hk => by rw [cut_l (by omega)]; exact dh k hk, ⟨fun s x1 x2 => by rw [cut_l (by omega)]; exact ds s x1 x2, dz⟩, ⟨d0.2.2.1, fun i hi => by rw [cut_l (by omega)]; exact dk i hi, fun i j hi hj => by rw [cut_l (by omega)]; exact dn i j hi hj⟩, fun i hi => by omega⟩
theorem hsW (h : Hs 0 M N) (h9 : N.1 86 9 = 0) : WOk (cut (N.1 86)) ∧ Tw (cut (N.1 86)) 3 M := by
  obtain ⟨h1, h2, h3, h4, h5, -⟩ := h
  have c0 : ∀ k, 6 ≤ k → cut (N.1 86) k = 0 := fun k hk => by
    by_cases e : k < 215
    · rw [cut_l e]; exact h1 k hk e
    · exact cut_g (by omega)
  have eT : nT (cut (N.1 86)) = 0 := by unfold nT; rw [c0 6 (by omega)]; rfl
  have eO : nO (cut (N.1 86)) = 0 := by unfold nO; rw [c0 7 (by omega)]; rfl
  have eA : nA (cut (N.1 86)) = 0 := by unfold nA; rw [c0 8 (by omega)]; rfl
  have pg : pgS (cut (N.1 86)) = false := by
    unfold pgS
    rw [c0 9 (by omega)]; decide
  refine ⟨⟨⟨⟨by rw [eT, c0 6 (by omega)]; rfl, by omega⟩, ⟨by rw [eO, c0 7 (by omega)]; rfl, by omega⟩, ⟨by rw [eA, c0 8 (by omega)]; rfl, by omega⟩, fun i hi => by omega, fun i hi => by omega⟩, fun z => (by rw [pg] at z; cases z), fun _ => ⟨eO, eA⟩, fun k hk => cut_g hk, fun z => (by rw [pg] at z; cases z), fun _ => eT⟩, ?_⟩
  unfold Tw Tk
  rw [eT, eO, eA, c0 9 (by omega), c0 6 (by omega), c0 8 (by omega), c0 7 (by omega)]
  exact ⟨⟨h2.1, h2.2.1, h2.2.2.2⟩, fun k hk => by rw [cut_l (by omega)]; exact h3 k hk, ⟨fun s x1 x2 => by omega, h4⟩, ⟨h2.2.2.1, fun i hi => by omega, fun i j hi => by omega⟩, fun i hi => by omega⟩
-- all lines
theorem readE : ∀ (m l f f' : Nat) (M N : Mem), l + m = 47 → m < f → m < f' → RS L M N → (M.1 1 2 = 0 → LnS l M N) → ∃ M' N', fX3_readInto_25 f 1 3 (nI l) M = fX3_readInto_57 1 M' ∧ fX10_program_54 f' 80 N = fX10_program_75 80 N' ∧ RS L M' N' ∧ (M'.1 1 2 = 0 → ∃ l', LnS l' M' N') ∧ FrC M M' ∧ FrD N N' := by
  intro m
  induction m with
  | zero =>
    intro l f f' M N hm hf hf' hR hS
    cases f with
    | zero => omega
    | succ f =>
    cases f' with
    | zero => omega
    | succ f' =>
      have h0 : ¬ M.1 1 2 = 0 := by
        intro z
        rcases hS z with ⟨e, -⟩ | ⟨t, n, hI, e⟩
        · omega
        · have := hI.1.1.2
          have := hI.1.2.1.2
          omega
      have h1 : ¬ N.1 80 12 = 0 := by rw [← hR.2.1.1]; exact h0
      unfold fX3_readInto_25 fX10_program_54
      rw [if_neg (show ¬ (800 : Int32) ≤ nI l from nI_ge (b := 800) (by omega) (by omega)), if_neg h0, goodF h1, bI_s, if_pos rfl]
      exact ⟨M, N, rfl, rfl, hR, fun z => absurd z h0, FrC.rf, FrD.rf⟩
  | succ m ih =>
    intro l f f' M N hm hf hf' hR hS
    cases f with
    | zero => omega
    | succ f =>
    cases f' with
    | zero => omega
    | succ f' =>
      have e1 : fX3_readInto_25 (f + 1) 1 3 (nI l) M = if (800 : Int32) ≤ nI l then fX3_readInto_57 1 M else if M.1 1 2 = 0 then (if M.1 1 6 = 0 then fX3_readInto_57 1 M else bV (fX3_readLine 1 3 M) fun M1 => fX3_readInto_25 f 1 3 (nI l + 1) M1) else fX3_readInto_57 1 M := rfl
      have e2 : fX10_program_54 (f' + 1) 80 N = bI (fX10_good 80 N) fun r2 M1 => if r2 = 0 then fX10_program_75 80 M1 else if (M1.1 80 10) = 0 then fX10_program_75 80 M1 else bV (fX10_readText 80 M1) fun M3 => fX10_program_54 f' 80 M3 := rfl
      rw [e1, e2, if_neg (show ¬ (800 : Int32) ≤ nI l from nI_ge (b := 800) (by omega) (by omega))]
      by_cases h0 : M.1 1 2 = 0
      · have h1 : N.1 80 12 = 0 := by rw [← hR.2.1.1]; exact h0
        obtain ⟨st, be, k1, k2, k3, k4, k5, k6, k7, k8⟩ := hR.2.2 h0
        rw [if_pos h0, goodT h1, bI_s, if_neg (show ¬ (1 : Int32) = 0 by decide), k7]
        by_cases c : M.1 1 6 = 0
        · rw [if_pos c, if_pos c]
          exact ⟨M, N, rfl, rfl, hR, fun z => ⟨l, hS z⟩, FrC.rf, FrD.rf⟩
        · obtain ⟨M1, N1, a1, a2, a3, a4, a5, a6⟩ := lineE hR h0 (hS h0)
          rw [if_neg c, if_neg c, a1, bV_s, a2, bV_s, nI_1]
          obtain ⟨M2, N2, b1, b2, b3, b4, b5, b6⟩ := ih (l + 1) f f' M1 N1 (by omega) (by omega) (by omega) a3 (fun z => Or.inr (a4 z))
          exact ⟨M2, N2, b1, b2, b3, b4, a5.tr b5, a6.tr b6⟩
      · have h1 : ¬ N.1 80 12 = 0 := by rw [← hR.2.1.1]; exact h0
        rw [if_neg h0, goodF h1, bI_s, if_pos rfl]
        exact ⟨M, N, rfl, rfl, hR, fun z => absurd z h0, FrC.rf, FrD.rf⟩
theorem pr30 {N0 : Mem} : ∀ (m i f : Nat) (N1 : Mem), i + m = 215 → m < f → N1.2 = N0.2 → (∀ c, ¬ c = 86 → N1.1 c = N0.1 c) → (∀ j, j < i → N1.1 86 j = 0) → ∃ N2, fX10_program_30 f 80 (nI i) N1 = (bV (fX10_advance 80 N2) fun M1 => fX10_program_54 LF 80 M1) ∧ N2.2 = N0.2 ∧ (∀ c, ¬ c = 86 → N2.1 c = N0.1 c) ∧ (∀ j, j < 215 → N2.1 86 j = 0) := by
  intro m
  induction m with
  | zero =>
    intro i f N1 hm hf h2 h1 h3
    have : i = 215 := by omega
    subst this
    cases f with
    | zero => omega
    | succ f =>
      unfold fX10_program_30
      rw [if_pos (show (215 : Int32) ≤ nI 215 from nI_le (a := 215) (b := 215) (by omega) (by omega))]
      exact ⟨N1, rfl, h2, h1, h3⟩
  | succ m ih =>
    intro i f N1 hm hf h2 h1 h3
    cases f with
    | zero => omega
    | succ f =>
      have e : fX10_program_30 (f + 1) 80 (nI i) N1 = if (215 : Int32) ≤ nI i then (bV (fX10_advance 80 N1) fun M1 => fX10_program_54 LF 80 M1) else ck (ib (nI i) 215) (fX10_program_30 f 80 (nI i + 1) (pI N1 (80 + 6) (tn (nI i)) 0)) := rfl
      rw [e, if_neg (show ¬ (215 : Int32) ≤ nI i from nI_ge (b := 215) (by omega) (by omega)), ib_n (show i < 215 by omega) (by omega), ck_t, tn_n (by omega), nI_1]
      refine ih (i + 1) f _ (by omega) (by omega) h2 (fun c hc => by rw [(pI_o c hc).1]; exact h1 c hc) (fun j hj => ?_)
      rw [show (pI N1 (80 + 6) i 0).1 86 j = _ from pI_1 .., if_pos rfl]
      by_cases e : j = i
      · rw [if_pos e]
      · rw [if_neg e]; exact h3 j (by omega)
theorem pr87 {N0 : Mem} : ∀ (m i f : Nat) (N1 : Mem), i + m = 215 → m < f → N1.2 = N0.2 → (∀ c, ¬ c = 81 → N1.1 c = N0.1 c) → (∀ j, N1.1 81 j = if j < i then N0.1 86 j else N0.1 81 j) → ∃ N2, fX10_program_87 f 80 (nI i) N1 = some (N0.1 86 9, N2) ∧ N2.2 = N0.2 ∧ (∀ c, ¬ c = 81 → N2.1 c = N0.1 c) ∧ (∀ j, N2.1 81 j = if j < 215 then N0.1 86 j else N0.1 81 j) := by
  intro m
  induction m with
  | zero =>
    intro i f N1 hm hf h2 h1 h3
    have : i = 215 := by omega
    subst this
    cases f with
    | zero => omega
    | succ f =>
      unfold fX10_program_87
      rw [if_pos (show (215 : Int32) ≤ nI 215 from nI_le (a := 215) (b := 215) (by omega) (by omega)), show ib (9 : Int32) 215 = true from rfl, ck_t, show tn (9 : Int32) = 9 from rfl, show N1.1 (80 + 1) 9 = _ from h3 9, if_pos (by omega)]
      exact ⟨N1, rfl, h2, h1, h3⟩
  | succ m ih =>
    intro i f N1 hm hf h2 h1 h3
    cases f with
    | zero => omega
    | succ f =>
      unfold fX10_program_87
      rw [if_neg (show ¬ (215 : Int32) ≤ nI i from nI_ge (b := 215) (by omega) (by omega)), ib_n (show i < 215 by omega) (by omega), ck_t, ck_t, tn_n (by omega), nI_1]
      refine ih (i + 1) f _ (by omega) (by omega) h2 (fun c hc => by rw [(pI_o c hc).1]; exact h1 c hc) (fun j => ?_)
      rw [show (pI N1 (80 + 1) i (N1.1 (80 + 6) i)).1 81 j = _ from pI_1 .., if_pos rfl, h3 j, show N1.1 (80 + 6) = N0.1 86 from h1 86 (by decide)]
      by_cases e : j = i
      · rw [if_pos e, if_pos (by omega), e]
      · rw [if_neg e]
        by_cases e2 : j < i
        · rw [if_pos e2, if_pos (by omega)]
        · rw [if_neg e2, if_neg (by omega)]
-- the state with the tape emptied and a fault told
def ftS (S : St) (f p : Int32) : St := (fun i k => if i = 6 then (if k = 0 then 0 else if k = 1 then f else if k = 2 then p else S.1 6 k) else S.1 i k, S.2)
theorem ftS_i (S : St) (f p : Int32) {i : Nat} (h : ¬ i = 6) : (ftS S f p).1 i = S.1 i := by
  funext k
  show (if i = 6 then _ else _) = _
  rw [if_neg h]
theorem ftS_k (S : St) (f p : Int32) : (ftS S f p).1 6 0 = 0 ∧ (ftS S f p).1 6 1 = f ∧ (ftS S f p).1 6 2 = p := by
  refine ⟨?_, ?_, ?_⟩ <;> simp [ftS]
theorem JC.ft (h : JC S M) {M' : Mem} {f p : Int32} (w : ∀ c, c < 80 → ¬ c = 1 → ¬ (3 ≤ c ∧ c ≤ 8) → M'.1 c = M.1 c) (w2 : M'.2 = M.2) (h5 : M'.1 5 0 = 0) (e : M'.1 1 1 = 0 ∧ M'.1 1 2 = f ∧ M'.1 1 3 = p) : JC (ftS S f p) M' := by
  obtain ⟨⟨a1, a2, a3⟩, ⟨b1, b2, b3⟩, c1, d1, e1, g1, i1⟩ := h
  obtain ⟨k0, k1, k2⟩ := ftS_k S f p
  refine ⟨⟨a1.tp (fun i _ h => ftS_i S f p h) ⟨0, by omega, k0⟩, by rw [ftS_i _ _ _ (by omega)]; exact a2.fr (fun c x y => w c (by omega) (by omega) (by omega)), by rw [ftS_i _ _ _ (by omega)]; exact a3.fr (fun c x y z => ⟨w c (by omega) (by omega) (by omega), by rw [w2]⟩)⟩, ⟨?_, ?_, ?_⟩, fun i hh => ⟨by rw [ftS_i _ _ _ (by omega)]; exact (c1 i hh).1.fr (fun c x y => w c (by omega) (by omega) (by omega)), ?_⟩, ?_, ⟨?_, ?_, ?_⟩, ?_, ?_⟩
  · unfold Rx0 at *
    rw [w 36 (by omega) (by omega) (by omega), w 37 (by omega) (by omega) (by omega)]
    exact ⟨⟨b1.1.1, h5⟩, b1.2⟩
  · rw [vX_fr (fun c x y => w c (by omega) (by omega) (by omega))]; exact b2
  · rw [vX_fr (fun c x y => w c (by omega) (by omega) (by omega))]; exact b3
  · rw [w 34 (by omega) (by omega) (by omega), ftS_i _ _ _ (by omega)]; exact (c1 i hh).2
  · rw [w 2 (by omega) (by omega) (by omega), ftS_i _ _ _ (by omega)]; exact d1
  · rw [k0]; exact e.1
  · rw [k1]; exact e.2.1
  · rw [k2]; exact e.2.2
  · rw [w 77 (by omega) (by omega) (by omega), w 78 (by omega) (by omega) (by omega), ftS_i _ _ _ (by omega), ftS_i _ _ _ (by omega)]; exact g1
  · rw [w2]; exact i1
theorem m_program : Eq2 S (fX9_program 0) (fX10_program 80) := by
  intro M N hM hN
  obtain ⟨n, hn, en⟩ := hM.1.1.2.1
  have h1 : M.1 1 1 = nI n := by rw [← en]; exact hM.2.2.2.2.1.1
  have h2 : N.1 80 5 = nI n := by rw [← en]; exact hN.2.2.2.1.1
  unfold fX9_program fX10_program fX3_readInto fX7_clear
  simp only [Nat.zero_add]
  rw [fillX (3 + 1) 6 (by omega) rfl, bV_s, fillX (3 + 4) 120 (by omega) rfl, bV_s, bV_s, h2]
  -- both sides begin
  generalize hMa : pI (pI (pI (pI (fiM (fiM M (3 + 1) 6 0) (3 + 4) 120 (-1)) 3 5 0) 3 6 0) 3 7 0) 3 8 0 = Ma
  generalize hNa : pI (pI (pI (pI (pI N 80 7 (nI n)) 80 5 0) 80 8 0) 80 12 0) 80 13 (-1) = Na
  have ma : ∀ c, ¬ c = 3 → ¬ c = 4 → ¬ c = 7 → Ma.1 c = M.1 c := fun c c3 c4 c7 => by
    rw [← hMa, (pI_o c c3).1, (pI_o c c3).1, (pI_o c c3).1, (pI_o c c3).1, (fiM_o c c7).1, (fiM_o c c4).1]
  have ma2 : Ma.2 = M.2 := by rw [← hMa]; rfl
  have ma3 : Ma.1 3 5 = 0 ∧ Ma.1 3 6 = 0 ∧ Ma.1 3 7 = 0 ∧ Ma.1 3 8 = 0 := by rw [← hMa]; simp [pI_1]
  have ma4 : ∀ k, k < 6 → Ma.1 4 k = 0 := fun k hk => by
    rw [← hMa, (pI_o 4 (by decide)).1, (pI_o 4 (by decide)).1, (pI_o 4 (by decide)).1, (pI_o 4 (by decide)).1, (fiM_o 4 (by decide)).1, show (fiM M (3 + 1) 6 0).1 4 k = _ from fiM_s k, if_pos hk]
  have ma7 : ∀ k, k < 120 → Ma.1 7 k = -1 := fun k hk => by
    rw [← hMa, (pI_o 7 (by decide)).1, (pI_o 7 (by decide)).1, (pI_o 7 (by decide)).1, (pI_o 7 (by decide)).1, show (fiM (fiM M (3 + 1) 6 0) (3 + 4) 120 (-1)).1 7 k = _ from fiM_s k, if_pos hk]
  have na : ∀ c, ¬ c = 80 → Na.1 c = N.1 c := fun c hc => by
    rw [← hNa, (pI_o c hc).1, (pI_o c hc).1, (pI_o c hc).1, (pI_o c hc).1, (pI_o c hc).1]
  have na2 : Na.2 = N.2 := by rw [← hNa]; rfl
  have na5 : Na.1 80 5 = 0 ∧ Na.1 80 7 = nI n ∧ Na.1 80 8 = 0 ∧ Na.1 80 12 = 0 ∧ Na.1 80 13 = -1 := by rw [← hNa]; simp [pI_1]
  obtain ⟨Nb, nb1, nb2, nb3, nb4⟩ := pr30 (N0 := Na) 215 0 LF Na (by omega) (by unfold LF; omega) rfl (fun _ _ => rfl) (fun j hj => by omega)
  rw [show fX10_program_30 LF 80 0 Na = _ from nb1]
  generalize hMb : pI (pI (pI Ma 1 2 0) 1 3 (-1)) 1 5 0 = Mb
  have mb : ∀ c, ¬ c = 1 → Mb.1 c = Ma.1 c := fun c hc => by rw [← hMb, (pI_o c hc).1, (pI_o c hc).1, (pI_o c hc).1]
  have mb2 : Mb.2 = M.2 := by rw [← ma2, ← hMb]; rfl
  have mb1 : Mb.1 1 1 = nI n ∧ Mb.1 1 2 = 0 ∧ Mb.1 1 3 = -1 ∧ Mb.1 1 5 = nI 0 := by
    refine ⟨?_, ?_, ?_, ?_⟩
    · rw [← hMb, pI_1, if_pos rfl, if_neg (by decide), pI_1, if_pos rfl, if_neg (by decide), pI_1, if_pos rfl, if_neg (by decide), ma 1 (by decide) (by decide) (by decide)]; exact h1
    · rw [← hMb]; simp [pI_1]
    · rw [← hMb]; simp [pI_1]
    · rw [← hMb, pI_1, if_pos rfl, if_pos rfl]; rfl
  have T : Tp n Mb Nb := by
    refine ⟨hn, mb1.1, ?_, fun i hi => ?_⟩
    · rw [nb3 80 (by decide)]; exact na5.2.1
    · obtain ⟨q1, q2⟩ := hM.2.2.2.1 i hi
      rw [nb3 84 (by decide), na 84 (by decide), mb 2 (by decide), ma 2 (by decide) (by decide) (by decide), q1]
      exact ⟨hN.2.2.1 i hi, q2⟩
  obtain ⟨Mc, Nc, c1, c2, c3, c4, c5⟩ := advE (p := 0) T (by omega) mb1.2.2.2 (by rw [nb3 80 (by decide)]; exact na5.2.2.1)
  rw [c1, bV_s, c2, bV_s]
  have Rc : RS n Mc Nc := by
    refine ⟨T.fr c4 c5, ⟨?_, ?_⟩, fun _ => c3⟩
    · rw [c4.2.1 2 (by omega), c5.2.1 12 (by omega), nb3 80 (by decide), mb1.2.1, na5.2.2.2.1]
    · rw [c4.2.1 3 (by omega), c5.2.1 13 (by omega), nb3 80 (by decide), mb1.2.2.1, na5.2.2.2.2]
  have mc : ∀ c, ¬ c = 1 → Mc.1 c = Ma.1 c := fun c hc => by rw [c4.1 c hc, mb c hc]
  have n86 : ∀ k, k < 215 → Nc.1 86 k = 0 := fun k hk => by rw [c5.1 86 (by decide)]; exact nb4 k hk
  have m50 : Ma.1 5 0 = 0 := by rw [ma 5 (by decide) (by decide) (by decide)]; exact hM.2.1.1.1.2
  have Hc : Hs 0 Mc Nc := by
    refine ⟨fun k _ k2 => n86 k k2, by rw [mc 3 (by decide)]; exact ma3, fun k hk => ?_, by rw [mc 5 (by decide)]; exact m50, fun j hj => by rw [mc 7 (by decide)]; exact ma7 j hj, fun _ k hk => by omega⟩
    rw [mc 4 (by decide), ma4 k hk, n86 k (by omega)]
  obtain ⟨Md, Nd, d1, d2, d3, d4, d5, d6⟩ := readE (L := n) 47 0 LF LF Mc Nc (by omega) (by unfold LF; omega) (by unfold LF; omega) Rc (fun _ => Or.inl ⟨rfl, Hc, n86 9 (by omega)⟩)
  rw [show fX3_readInto_25 LF 1 3 0 Mc = _ from d1, d2]
  have md : ∀ c, ¬ c = 1 → ¬ (3 ≤ c ∧ c ≤ 8) → Md.1 c = M.1 c := fun c x y => by rw [d5.1 c x y, mc c x, ma c (by omega) (by omega) (by omega)]
  have md2 : Md.2 = M.2 := by rw [d5.2.2.1, c4.2.2, mb2]
  have md5 : Md.1 5 0 = 0 := d5.2.2.2 (by rw [mc 5 (by decide)]; exact m50)
  have nd : ∀ c, ¬ c = 80 → ¬ c = 86 → Nd.1 c = N.1 c := fun c x y => by rw [d6.1 c x y, c5.1 c x, nb3 c y, na c x]
  have nd2 : Nd.2 = N.2 := by rw [d6.2.2, c5.2.2, nb2, na2]
  have nd5 : Nd.1 80 5 = 0 := by rw [d6.2.1 5 (by omega), c5.2.1 5 (by omega), nb3 80 (by decide)]; exact na5.1
  -- the tape is empty, the fault is told
  generalize hMe : pI Md 1 1 0 = Me
  have me : ∀ c, ¬ c = 1 → Me.1 c = Md.1 c := fun c hc => by rw [← hMe, (pI_o c hc).1]
  have me1 : Me.1 1 1 = 0 ∧ Me.1 1 2 = Md.1 1 2 ∧ Me.1 1 3 = Md.1 1 3 := by rw [← hMe]; simp [pI_1]
  have me2 : Me.2 = M.2 := by rw [← md2, ← hMe]; rfl
  have jc : JC (ftS S (Md.1 1 2) (Md.1 1 3)) Me := hM.ft (fun c _ x y => by rw [me c x, md c x y]) me2 (by rw [me 5 (by decide)]; exact md5) me1
  obtain ⟨k0, k1, k2⟩ := ftS_k S (Md.1 1 2) (Md.1 1 3)
  have jr : JR (ftS S (Md.1 1 2) (Md.1 1 3)) Nd := hN.tp (fun i _ h => ftS_i _ _ _ h) rfl ⟨0, by omega, k0⟩ (fun c x y => ⟨nd c (by omega) (by omega), by rw [nd2]⟩) (fun i hi => by rw [nd 84 (by decide) (by decide), ftS_i _ _ _ (by omega)]; exact hN.2.2.1 i hi) ⟨by rw [k0]; exact nd5, by rw [k1]; exact d3.2.1.1.symm, by rw [k2]; exact d3.2.1.2.symm⟩
  have fM : FrCl M Me := fun c hc => ⟨by rw [me c (by omega), md c (by omega) (by omega)], by rw [me2]⟩
  have fN : FrRf N Nd := fun c hc => ⟨nd c (by omega) (by omega), by rw [nd2]⟩
  unfold fX3_readInto_57 fX10_program_75
  rw [hMe, me1.2.1]
  by_cases h0 : Md.1 1 2 = 0
  · have h0' : Nd.1 80 12 = 0 := by rw [← d3.2.1.1]; exact h0
    rw [if_pos h0, bI_s, if_neg (show ¬ (1 : Int32) = 0 by decide), goodT h0', bI_s, if_neg (show ¬ (1 : Int32) = 0 by decide)]
    have wk : WOk (cut (Nd.1 86)) ∧ Tw (cut (Nd.1 86)) 3 Md := by
      obtain ⟨l, hl⟩ := d4 h0
      rcases hl with ⟨-, hH, h9⟩ | ⟨t, o, hI, hl⟩
      · exact hsW hH h9
      · obtain ⟨p1, p2, p3, p4⟩ := pwW hI.1 hl
        exact ⟨p1, dtW hI.2 p2 p3 p4 hI.1.1.2 hI.1.2.1.2⟩
    obtain ⟨hW, hT⟩ := wk
    have hT' : Tw (cut (Nd.1 86)) 3 Me := hT.fr (fun c x y => me c (by omega))
    obtain ⟨M1, e1, t1, f1, g1⟩ := copyX (M := Me) (W := cut (Nd.1 86)) (o := 9) (q := 3) (by omega) hW.1 hT'
    have z1 : GZ (vX 41 M1) := by rw [vX_fr (fun c x y => f1 c (by omega))]; exact jc.2.1.2.1
    have r1 : Rx0 M1 := by
      have := jc.2.1.1
      unfold Rx0 at *
      rw [f1 36 (by omega), f1 5 (by omega), f1 37 (by omega)]; exact this
    obtain ⟨M2, e3, c3', r3, z3, f3⟩ := rebuildX hW t1 r1 z1
    have t2 : Tw (cut (Nd.1 86)) 9 M2 := t1.fr (fun c x y => (f3 c (by omega) (by omega)).1)
    obtain ⟨N2, q1, q2, q3, q4⟩ := pr87 (N0 := Nd) 215 0 LF Nd (by omega) (by unfold LF; omega) rfl (fun _ _ => rfl) (fun j => by rw [if_neg (by omega)])
    rw [e1, bV_s, e3, bV_s, show fX10_program_87 LF 80 0 Nd = _ from q1, t2.1.1, cut_l (by omega)]
    refine ⟨_, M2, N2, wdS (ftS S (Md.1 1 2) (Md.1 1 3)) (cut (Nd.1 86)), rfl, rfl, jc.wd hW t2 c3' r3 z3 (fun c x y z => ⟨by rw [(f3 c (by omega) (by omega)).1, f1 c (by omega)], by rw [(f3 c (by omega) (by omega)).2, g1]⟩), jr.wd hW ?_ (fun c x y => ⟨q3 c y, by rw [q2]⟩), fM.tr (fun c hc => ⟨by rw [(f3 c (by omega) (by omega)).1, f1 c (by omega)], by rw [(f3 c (by omega) (by omega)).2, g1]⟩), fN.tr (fun c hc => ⟨q3 c (by omega), by rw [q2]⟩)⟩
    funext j
    rw [q4 j]
    by_cases hj : j < 215
    · rw [if_pos hj, cut_l hj]
    · rw [if_neg hj, cut_g (by omega), nd 81 (by decide) (by decide), hN.1.2.1]
      exact hN.w.2.2.2.1 j (by omega)
  · have h0' : ¬ Nd.1 80 12 = 0 := by rw [← d3.2.1.1]; exact h0
    rw [if_neg h0, bI_s, if_pos rfl, goodF h0', bI_s, if_pos rfl]
    exact ⟨_, Me, Nd, _, rfl, rfl, jc, jr, fM, fN⟩
end Program
