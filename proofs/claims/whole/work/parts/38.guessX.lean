/-! The class's Guesser: the whole learning, clear, setAs; what the state keeps. -/
def szG (i : Nat) : Nat := if i < 3 then 80 else if i = 3 then 16 else if i < 9 then 8 else 48
def GZ (g : GS) : Prop := ∀ i k, i < 10 → szG i ≤ k → g i k = 0
theorem gu_z {g : GS} {i k : Nat} {v : Int32} (h : GZ g) (hk : k < szG i) : GZ (gu g i k v) := by
  intro a j ha hj
  unfold gu
  rw [if_neg (fun z => by rw [z.1, z.2] at hj; omega)]
  exact h a j ha hj
theorem gs_z {g : GS} {i : Nat} {v : Int32} (h : GZ g) (hi : 10 ≤ i) : GZ (gs g i v) := by
  intro a j ha hj
  unfold gs
  rw [if_neg (by omega)]
  exact h a j ha hj
theorem gi_z {g : GS} {i : Nat} {x y : Int32} (h : GZ g) (hi : i < 8) : GZ (giS g i x y) :=
  gu_z (gu_z (gu_z (gu_z (gu_z h (by simp [szG]; omega)) (by simp [szG]; omega)) (by simp [szG]; omega)) (by simp [szG]; omega)) (by simp [szG]; omega)
theorem go1_z {g : GS} {i : Nat} (h : GZ g) (hi : i < 8) : GZ (goS1 g i) := by
  unfold goS1
  split
  · exact gi_z h hi
  · exact h
theorem lp_z {g : GS} {a : Nat} {t : Int32} {b : Bool} (h : GZ g) : GZ (lpS g a t b) := by
  have hi : a % 8 < 8 := by omega
  have u : ∀ i v, 4 ≤ i → i < 9 → ∀ gg, GZ gg → GZ (gu gg i (a % 8) v) := fun i v h4 h9 gg hg => gu_z hg (by unfold szG; rw [if_neg (by omega), if_neg (by omega), if_pos h9]; exact hi)
  unfold lpS
  split
  · split
    · unfold goS
      split
      · exact go1_z (u 6 _ (by omega) (by omega) _ h) hi
      · split
        · exact go1_z (u 6 _ (by omega) (by omega) _ h) hi
        · exact go1_z (u 7 _ (by omega) (by omega) _ (u 5 _ (by omega) (by omega) _ (u 6 _ (by omega) (by omega) _ h))) hi
    · unfold leS
      split
      · exact u 6 _ (by omega) (by omega) _ (u 7 _ (by omega) (by omega) _ h)
      · exact u 6 _ (by omega) (by omega) _ (u 7 _ (by omega) (by omega) _ (u 5 _ (by omega) (by omega) _ h))
  · split
    · split
      · exact gi_z h hi
      · exact u 8 _ (by omega) (by omega) _ h
    · exact h
theorem cr_z {g : GS} {k0 k1 k2 : Nat} {fs to sd t : Int32} (h : GZ g) (h0 : k0 < 48) (h1 : k1 < 48) (h2 : k2 < 48) : GZ (crS g k0 k1 k2 fs to sd t) := by
  have hg : ∀ b, GZ (if sd = fs then g else gs g 13 b) := by
    intro b
    split
    · exact h
    · exact gs_z h (by omega)
  simp only [crS, cuS]
  split
  · exact hg _
  · exact gu_z (gu_z (gu_z (hg _) (by simp [szG]; exact h0)) (by simp [szG]; exact h1)) (by simp [szG]; exact h2)
theorem mv_z {cf : Cfg} (hc : CfgOk cf) {g : GS} {p a tb : Nat} {t : Int32} (h : GZ g) (ht : tb ≤ cf 3) : GZ (mvS cf g p a tb t) := by
  unfold mvS
  split
  · exact gu_z h (by simp [szG]; omega)
  · exact gu_z h (by simp [szG]; exact pl_lt hc p a (by omega) ht)
theorem dc_z {cf : Cfg} (hc : CfgOk cf) {p a : Nat} : ∀ (m k : Nat) (g : GS), GZ g → 1 ≤ k → k + m = cf 3 + 1 → GZ (dcS cf p a g k m) := by
  intro m
  induction m with
  | zero => intro k g h _ _; exact h
  | succ m ih =>
    intro k g h h1 hk
    rw [dcS]
    split
    · exact ih (k + 1) g h (by omega) (by omega)
    · exact ih (k + 1) _ (gu_z h (by simp [szG]; exact pl_lt hc p a h1 (by omega))) (by omega) (by omega)
theorem st_z {cf : Cfg} {g : GS} (h : GZ g) : GZ (stS cf g) := by
  unfold stS haS
  split
  · refine gs_z (gs_z ?_ (by omega)) (by omega)
    intro i k hi hk
    simp only []
    rw [if_neg (by
      rintro ⟨rfl, h2⟩
      simp [szG] at hk; omega)]
    exact gs_z h (by omega) i k hi hk
  · exact gs_z h (by omega)
theorem fr_le {cf : Cfg} {g : GS} {p a : Nat} : ∀ (m k : Nat), k + m = cf 3 + 1 → frS cf g p a k m ≤ cf 3 ∧ (¬ frS cf g p a k m = 0 → k ≤ frS cf g p a k m ∧ ¬ frS cf g p a k m = cf 4 ∧ g 2 (plS cf p a (frS cf g p a k m)) = 0) := by
  intro m
  induction m with
  | zero => intro k _; exact ⟨Nat.zero_le _, fun z => absurd rfl z⟩
  | succ m ih =>
    intro k hk
    rw [frS]
    split
    · exact ⟨(ih (k + 1) (by omega)).1, fun z => ⟨by have := ((ih (k + 1) (by omega)).2 z).1; omega, ((ih (k + 1) (by omega)).2 z).2⟩⟩
    · split
      · rename_i h1 h2
        exact ⟨by omega, fun _ => ⟨Nat.le_refl _, h1, h2⟩⟩
      · exact ⟨(ih (k + 1) (by omega)).1, fun z => ⟨by have := ((ih (k + 1) (by omega)).2 z).1; omega, ((ih (k + 1) (by omega)).2 z).2⟩⟩
theorem tk_z {cf : Cfg} (hc : CfgOk cf) {g : GS} {p a pv : Nat} {t : Int32} (h : GZ g) (hp : pv ≤ cf 3) : GZ (tkS cf g p a pv t) := by
  simp only [tkS]
  split
  · split
    · exact st_z (dc_z hc _ _ _ h (by omega) (by omega))
    · exact h
  · rename_i hf
    have hl := fr_le (cf := cf) (g := g) (p := p) (a := a) (cf 3 - pv) (pv + 1) (by omega)
    have hpl := pl_lt hc p a (show 1 ≤ frS cf g p a (pv + 1) (cf 3 - pv) by omega) hl.1
    exact gu_z (gu_z h (by simp [szG]; exact hpl)) (by simp [szG]; exact hpl)
theorem ln_z {cf : Cfg} (hc : CfgOk cf) {g : GS} {p a : Nat} {t : Int32} (h : GZ g) : GZ (lnS cf g p a t) := by
  have hle := pv_le cf g p a
  have h1 : GZ (if hs cf 1 = true then lpS g a t (!decide (anS cf g p a = t)) else g) := by
    split
    · exact lp_z h
    · exact h
  simp only [lnS]
  generalize (if hs cf 1 = true then lpS g a t (!decide (anS cf g p a = t)) else g) = g1 at h1 ⊢
  have h2 : GZ (if hs cf 2 = true then crS g1 (c0S cf g p a) (c1S p a) (c2S p a) (fsS cf g p a) (toS cf g p a) (sdS cf g p a) t else g1) := by
    split
    · exact cr_z h1 (by have := c0_lt cf g p a; omega) (by have := c1_lt p a; omega) (by have := c2_lt p a; omega)
    · exact h1
  generalize (if hs cf 2 = true then crS g1 (c0S cf g p a) (c1S p a) (c2S p a) (fsS cf g p a) (toS cf g p a) (sdS cf g p a) t else g1) = g2 at h2 ⊢
  have h3 : GZ (t1S cf g g2 p a t) := by
    unfold t1S
    split
    · exact gs_z h2 (by omega)
    · exact h2
  have h4 : GZ (t2S cf g (t1S cf g g2 p a t) p a t) := by
    unfold t2S
    split
    · rename_i hh
      simp only [Bool.and_eq_true, decide_eq_true_eq] at hh
      exact gu_z h3 (by simp [szG]; exact pl_lt hc p a (by omega) hle)
    · exact h3
  have h5 : GZ (t3S cf g (t2S cf g (t1S cf g g2 p a t) p a t) p a t) := mv_z hc h4 hle
  have h6 : GZ (t4S cf g (t3S cf g (t2S cf g (t1S cf g g2 p a t) p a t) p a t) p a t) := by
    unfold t4S
    split
    · exact mv_z hc h5 (at_le cf g p a)
    · exact h5
  unfold t5S
  split
  · exact h6
  · exact tk_z hc h6 hle
-- past
theorem shl1 (n : Nat) : lN n <<< ((1 : Int32).toInt64 &&& 63) = lN (2 * n) := by
  rw [show ((1 : Int32).toInt64 &&& 63) = lN 1 from by decide]
  apply i64_ext
  rw [Int64.toBitVec_shiftLeft]
  rw [show (lN 1).toBitVec.smod 64 = BitVec.ofNat 64 1 from by decide +kernel, lN_bv', lN_bv']
  apply BitVec.eq_of_toNat_eq
  rw [BitVec.shiftLeft_eq', BitVec.toNat_shiftLeft, BitVec.toNat_ofNat, BitVec.toNat_ofNat, BitVec.toNat_ofNat, Nat.mod_eq_of_lt (show 1 < 2 ^ 64 by omega), Nat.shiftLeft_eq]
  omega
theorem lN_md (n : Nat) : lN n = lN (n % 2 ^ 64) := by
  apply i64_ext
  rw [lN_bv', lN_bv']
  apply BitVec.eq_of_toNat_eq
  rw [BitVec.toNat_ofNat, BitVec.toNat_ofNat, Nat.mod_mod]
theorem past1 {n : Nat} {t : Int32} (ht : t = 0 ∨ t = 1) : (lN n <<< ((1 : Int32).toInt64 &&& 63)) ||| t.toInt64 = lN ((2 * n + (if t = 1 then 1 else 0)) % 2 ^ 64) := by
  rw [shl1, ← lN_md]
  rcases ht with rfl | rfl
  · rw [show (0 : Int32).toInt64 = lN 0 from by decide, lN_or', if_neg (by decide)]
    simp
  · rw [show (1 : Int32).toInt64 = lN 1 from by decide, lN_or', if_pos rfl]
    congr 1
    have := Nat.two_pow_add_eq_or_of_lt (i := 1) (b := 1) (by omega) n
    rw [Nat.pow_one] at this
    omega
theorem learnX {cf : Cfg} (hc : CfgOk cf) {g : GS} {p a o : Nat} {t : Int32} {M : Mem} (ha : a < 64) (ht : t = 0 ∨ t = 1) (hG : GX cf g p o M) (hA : AX cf g p a o M) :
    ∃ M1, fX1_learn o t M = some M1 ∧ GX cf (lnS cf g p a t) (paS p t) o M1 ∧ FrX o M M1 ∧ M1.1 o 5 = M.1 o 5 + 1 := by
  have hpar := hc.2.2.2.2.2.1
  obtain ⟨hK, h3, hv, P, hP, eP, rfl⟩ := hG
  have hS : SX cf g g P a o M := ⟨hA, hK, h3, hv, eP⟩
  -- the past grows
  have k89 : ∀ (MM : Mem) (gf : GS), SX cf g gf P a o MM → ∃ M1, fX1_learn_89 o t MM = some M1 ∧ GX cf gf (paS (P % 2 ^ 40) t) o M1 ∧ FrX o MM M1 ∧ M1.1 o 5 = MM.1 o 5 + 1 := by
    intro MM gf hS3
    unfold fX1_learn_89
    rw [hS3.2.2.2.2, past1 ht]
    refine ⟨_, rfl, ⟨?_, ?_, ?_, (2 * P + (if t = 1 then 1 else 0)) % 2 ^ 64, Nat.mod_lt _ (by omega), ?_, ?_⟩, ?_, ?_⟩
    · exact hS3.2.1.mv (fun k hk => by rw [(pI_o (o + 1) (by omega)).1]; rfl) (fun u => by rw [(pI_o (o + 1 + 1) (by omega)).1]; rfl)
    · rw [pI_1, if_pos rfl, if_neg (by omega)]; exact hS3.2.2.1
    · have vs : VSame o (pL MM o 4 (lN ((2 * P + (if t = 1 then 1 else 0)) % 2 ^ 64))) (pI (pL MM o 4 (lN ((2 * P + (if t = 1 then 1 else 0)) % 2 ^ 64))) o 5 ((pL MM o 4 (lN ((2 * P + (if t = 1 then 1 else 0)) % 2 ^ 64))).1 o 5 + 1)) := VSame.pIo (by omega)
      rw [vs.v]
      exact hS3.2.2.2.1
    · rw [pI_2, pL_2]; simp
    · unfold paS; omega
    · exact (FrX.pL (by omega) (by omega)).tr (FrX.pI (by omega) (by omega))
    · rw [pI_1, if_pos rfl, if_pos rfl, pL_1]
  -- behind CORRECTOR
  have k49 : ∀ (MM : Mem) (gg : GS), SX cf g gg P a o MM → gg 1 = g 1 → gg 3 = g 3 → ∃ M1, fX1_learn_49 o t MM = some M1 ∧ GX cf (t5S cf g (t4S cf g (t3S cf g (t2S cf g (t1S cf g gg (P % 2 ^ 40) a t) (P % 2 ^ 40) a t) (P % 2 ^ 40) a t) (P % 2 ^ 40) a t) (P % 2 ^ 40) a t) (paS (P % 2 ^ 40) t) o M1 ∧ FrX o MM M1 ∧ M1.1 o 5 = MM.1 o 5 + 1 := by
    intro MM gg hSS e1 e3
    unfold fX1_learn_49
    rw [show (4 : Int32) = nI 4 from rfl, hasX hSS.2.2.1 hpar, bI_s]
    obtain ⟨M3, q3, c3, v3⟩ := tabX (t := t) hc hSS e1 e3
    rw [q3, bV_s]
    have hS3 := hSS.ch c3 v3
    rw [hS3.1.2.2.2.2.2.2.2.1, hS3.1.1, hS3.2.2.2.2]
    unfold t5S
    generalize t4S cf g (t3S cf g (t2S cf g (t1S cf g gg (P % 2 ^ 40) a t) (P % 2 ^ 40) a t) (P % 2 ^ 40) a t) (P % 2 ^ 40) a t = gf at *
    by_cases hf : fsS cf g (P % 2 ^ 40) a = t
    · rw [if_pos hf, if_pos hf]
      obtain ⟨M1, f1, f2, f3, f4⟩ := k89 M3 _ hS3
      exact ⟨M1, f1, f2, c3.1.tr f3, by rw [f4, c3.2.1]⟩
    · rw [if_neg hf, if_neg hf]
      obtain ⟨M4, q4, c4, v4⟩ := takeX (t := t) hc ha hP hS3
      rw [q4, bV_s]
      obtain ⟨M1, f1, f2, f3, f4⟩ := k89 M4 _ (hS3.ch c4 v4)
      exact ⟨M1, f1, f2, c3.1.tr (c4.1.tr f3), by rw [f4, c4.2.1, c3.2.1]⟩
  have k33 : ∀ (MM : Mem) (gg : GS), SX cf g gg P a o MM → gg 1 = g 1 → gg 3 = g 3 → ∃ M1, fX1_learn_33 o t MM = some M1 ∧ GX cf (t5S cf g (t4S cf g (t3S cf g (t2S cf g (t1S cf g (if hs cf 2 = true then crS gg (c0S cf g (P % 2 ^ 40) a) (c1S (P % 2 ^ 40) a) (c2S (P % 2 ^ 40) a) (fsS cf g (P % 2 ^ 40) a) (toS cf g (P % 2 ^ 40) a) (sdS cf g (P % 2 ^ 40) a) t else gg) (P % 2 ^ 40) a t) (P % 2 ^ 40) a t) (P % 2 ^ 40) a t) (P % 2 ^ 40) a t) (P % 2 ^ 40) a t) (paS (P % 2 ^ 40) t) o M1 ∧ FrX o MM M1 ∧ M1.1 o 5 = MM.1 o 5 + 1 := by
    intro MM gg hSS e1 e3
    unfold fX1_learn_33
    rw [show (2 : Int32) = nI 2 from rfl, hasX hSS.2.2.1 hpar, bI_s]
    by_cases h2 : hs cf 2 = true
    · rw [if_neg (by rw [wkI_0, h2]; simp), if_pos h2]
      obtain ⟨M3, q3, c3, v3⟩ := crX (t := t) hSS
      rw [q3, bV_s]
      obtain ⟨M1, f1, f2, f3, f4⟩ := k49 M3 _ (hSS.ch c3 v3) (by rw [cr_row _ _ _ _ _ _ _ _ (by omega) (by omega)]; exact e1) (by rw [cr_row _ _ _ _ _ _ _ _ (by omega) (by omega)]; exact e3)
      exact ⟨M1, f1, f2, c3.1.tr f3, by rw [f4, c3.2.1]⟩
    · rw [if_pos (by rw [wkI_0]; simpa using h2), if_neg h2]
      exact k49 MM gg hSS e1 e3
  unfold fX1_learn
  rw [show (1 : Int32) = nI 1 from rfl, hasX h3 hpar, bI_s]
  simp only [lnS]
  by_cases h1 : hs cf 1 = true
  · rw [if_neg (by rw [wkI_0, h1]; simp), hA.1, hA.2.1, if_pos h1]
    have k30 : ∀ b : Bool, b = !decide (anS cf g (P % 2 ^ 40) a = t) → ∃ M1, fX1_learn_30 o t (o + 8) (nI a) t (wkI b) M = some M1 ∧ GX cf (t5S cf g (t4S cf g (t3S cf g (t2S cf g (t1S cf g (if hs cf 2 = true then crS (lpS g a t b) (c0S cf g (P % 2 ^ 40) a) (c1S (P % 2 ^ 40) a) (c2S (P % 2 ^ 40) a) (fsS cf g (P % 2 ^ 40) a) (toS cf g (P % 2 ^ 40) a) (sdS cf g (P % 2 ^ 40) a) t else lpS g a t b) (P % 2 ^ 40) a t) (P % 2 ^ 40) a t) (P % 2 ^ 40) a t) (P % 2 ^ 40) a t) (P % 2 ^ 40) a t) (paS (P % 2 ^ 40) t) o M1 ∧ FrX o M M1 ∧ M1.1 o 5 = M.1 o 5 + 1 := by
      intro b hb
      unfold fX1_learn_30
      obtain ⟨M3, q3, c3, v3⟩ := lpX (o := o) (t := t) (b := b) (M := M) ha
      rw [hv] at v3
      rw [q3, bV_s]
      obtain ⟨M1, f1, f2, f3, f4⟩ := k33 M3 _ (hS.ch c3 v3) (lp_row _ _ _ _ (by omega)) (lp_row _ _ _ _ (by omega))
      exact ⟨M1, f1, f2, c3.1.tr f3, by rw [f4, c3.2.1]⟩
    by_cases hq : anS cf g (P % 2 ^ 40) a = t
    · rw [if_pos hq]
      have := k30 false (by simp [hq])
      rw [show (!decide (anS cf g (P % 2 ^ 40) a = t)) = false from by simp [hq]]
      exact this
    · rw [if_neg hq]
      have := k30 true (by simp [hq])
      rw [show (!decide (anS cf g (P % 2 ^ 40) a = t)) = true from by simp [hq]]
      exact this
  · rw [if_pos (by rw [wkI_0]; simpa using h1), if_neg h1]
    exact k33 M g hS rfl rfl
-- fill
def fiM (M : Mem) (c n : Nat) (v : Int32) : Mem := (fun a k => if a = c ∧ k < n then v else M.1 a k, M.2)
theorem fillLoop (c n : Nat) (hn : n < 2 ^ 30) (hk : (kd c).2 = n) (v : Int32) (M : Mem) : ∀ (m i f : Nat), i + m = n → m < f → fJ7_fill_53178_5 f c v (nI i) (nI n) (fiM M c i v) = some (fiM M c n v) := by
  intro m
  induction m with
  | zero =>
    intro i f hi hf
    obtain ⟨f, rfl⟩ : ∃ z, f = z + 1 := ⟨f - 1, by omega⟩
    have : i = n := by omega
    subst this
    rw [fJ7_fill_53178_5, if_pos (nI_le (Nat.le_refl _) (by omega))]
  | succ m ih =>
    intro i f hi hf
    obtain ⟨f, rfl⟩ : ∃ z, f = z + 1 := ⟨f - 1, by omega⟩
    rw [fJ7_fill_53178_5, if_neg (nI_ge (by omega) (by omega)), hk, ib_n (show i < n by omega) (by omega), ck_t, tn_n (by omega), nI_1]
    rw [show pI (fiM M c i v) c i v = fiM M c (i + 1) v from ?_]
    · exact ih (i + 1) f (by omega) (by omega)
    · refine Prod.ext ?_ rfl
      funext x k
      rw [pI_1]
      show (if x = c then (if k = i then v else if x = c ∧ k < i then v else M.1 x k) else if x = c ∧ k < i then v else M.1 x k) = if x = c ∧ k < i + 1 then v else M.1 x k
      by_cases h1 : x = c
      · subst h1
        by_cases h2 : k = i
        · simp [h2]
        · by_cases h3 : k < i
          · simp [h2, h3, show k < i + 1 by omega]
          · simp [h2, h3, show ¬ k < i + 1 by omega]
      · simp [h1]
theorem fillX (c n : Nat) (hn : n < 20000) (hk : (kd c).2 = n) (v : Int32) (M : Mem) : fJ7_fill_53178 c v M = some (fiM M c n v) := by
  unfold fJ7_fill_53178
  rw [hk]
  have h := fillLoop c n (by omega) hk v M n 0 LF (by omega) (by unfold LF; omega)
  rw [show fiM M c 0 v = M from Prod.ext (by funext x k; show (if x = c ∧ k < 0 then v else M.1 x k) = _; simp) rfl] at h
  exact h
theorem fiM_o {M : Mem} {c n : Nat} {v : Int32} : ∀ a, ¬ a = c → (fiM M c n v).1 a = M.1 a ∧ (fiM M c n v).2 a = M.2 a := fun a h => ⟨by funext k; show (if a = c ∧ k < n then v else M.1 a k) = _; simp [h], rfl⟩
theorem fiM_s {M : Mem} {c n : Nat} {v : Int32} (k : Nat) : (fiM M c n v).1 c k = if k < n then v else M.1 c k := by
  show (if c = c ∧ k < n then v else M.1 c k) = _
  simp
-- clear
theorem g0_row (i : Nat) (hi : i < 10) : g0S i = fun k => if k < szG i then (if i = 0 then -1 else if i = 3 then 1 else if i = 4 ∨ i = 5 then -1 else 0) else 0 := by
  funext k
  unfold g0S szG
  have : i = 0 ∨ i = 1 ∨ i = 2 ∨ i = 3 ∨ i = 4 ∨ i = 5 ∨ i = 6 ∨ i = 7 ∨ i = 8 ∨ i = 9 := by omega
  rcases this with rfl | rfl | rfl | rfl | rfl | rfl | rfl | rfl | rfl | rfl <;> simp
theorem g0_z : GZ g0S := by
  intro i k hi hk
  rw [g0_row i hi]
  simp [show ¬ k < szG i by omega]
theorem clLoop {o : Nat} : ∀ (m i f : Nat) (M0 M1 : Mem), i + m = 8 → m < f → Ch o M0 M1 → vX o M1 = (fun x k => if (4 ≤ x ∧ x ≤ 8) ∧ k < i then (if x = 4 ∨ x = 5 then -1 else 0) else vX o M0 x k) → ∃ M', fX2_clear_2 f (o + 8) (nI i) M1 = some M' ∧ Ch o M0 M' ∧ vX o M' = (fun x k => if (4 ≤ x ∧ x ≤ 8) ∧ k < 8 then (if x = 4 ∨ x = 5 then -1 else 0) else vX o M0 x k) := by
  intro m
  induction m with
  | zero =>
    intro i f M0 M1 hi hf hC hv
    obtain ⟨f, rfl⟩ : ∃ z, f = z + 1 := ⟨f - 1, by omega⟩
    have : i = 8 := by omega
    subst this
    rw [fX2_clear_2, if_pos (by decide)]
    exact ⟨M1, rfl, hC, hv⟩
  | succ m ih =>
    intro i f M0 M1 hi hf hC hv
    obtain ⟨f, rfl⟩ : ∃ z, f = z + 1 := ⟨f - 1, by omega⟩
    rw [fX2_clear_2, if_neg (by rw [show (8 : Int32) = nI 8 from rfl]; exact nI_ge (by omega) (by omega))]
    obtain ⟨M2, e2, c2, v2⟩ := giveX (o := o) (i := i) (ow := -1) (ag := 0) (M := M1) (by omega)
    rw [e2, bV_s, nI_1]
    refine ih (i + 1) f M0 M2 (by omega) (by omega) (hC.tr c2) ?_
    rw [v2, hv]
    funext x k
    unfold giS gu
    by_cases hk : k = i
    · subst hk
      by_cases h4 : x = 4
      · subst h4; simp
      · by_cases h5 : x = 5
        · subst h5; simp
        · by_cases h6 : x = 6
          · subst h6; simp
          · by_cases h7 : x = 7
            · subst h7; simp
            · by_cases h8 : x = 8
              · subst h8; simp
              · have : ¬ (4 ≤ x ∧ x ≤ 8) := by omega
                simp [h4, h5, h6, h7, h8, this]
    · by_cases hlt : k < i
      · simp [hk, hlt, show k < i + 1 by omega]
      · simp [hk, hlt, show ¬ k < i + 1 by omega]
