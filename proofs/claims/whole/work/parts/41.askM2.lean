/-! The reference's guesser: the whole asking. -/
def AM (cf : Cfg) (g : GS) (p a o : Nat) (M : Mem) : Prop := TM cf g p a o M ∧ M.1 (o + 25) 0 = nI (c0S cf g p a) ∧ M.1 (o + 25) 1 = nI (c1S p a) ∧ M.1 (o + 25) 2 = nI (c2S p a) ∧ M.1 o 52 = toS cf g p a ∧ M.1 o 53 = sdS cf g p a ∧ M.1 o 54 = anS cf g p a ∧ M.1 o 55 = whS cf g p a
theorem TM.mv {cf : Cfg} {g : GS} {p a o : Nat} {M M' : Mem} (h : TM cf g p a o M) (e1 : M'.1 (o + 23) = M.1 (o + 23)) (e2 : M'.1 (o + 24) = M.1 (o + 24)) (e3 : ∀ k, 44 ≤ k → k ≤ 50 → M'.1 o k = M.1 o k) : TM cf g p a o M' := by
  obtain ⟨h1, h2, h3, h4, h5, h6, h7, h8⟩ := h
  exact ⟨by rw [e3 44 (by omega) (by omega)]; exact h1, fun t a b => by rw [e1, e2]; exact h2 t a b, by rw [e3 45 (by omega) (by omega)]; exact h3, by rw [e3 46 (by omega) (by omega)]; exact h4, by rw [e3 47 (by omega) (by omega)]; exact h5, by rw [e3 48 (by omega) (by omega)]; exact h6, by rw [e3 49 (by omega) (by omega)]; exact h7, by rw [e3 50 (by omega) (by omega)]; exact h8⟩
theorem corrM {cf : Cfg} {g : GS} {p a o : Nat} {M : Mem} (ha : a < 64) (hG : GM cf g p o M) (hT : TM cf g p a o M) : ∃ M', fX10_askCorrector o M = some M' ∧ QS o M M' ∧ TM cf g p a o M' ∧ M'.1 (o + 25) 0 = nI (c0S cf g p a) ∧ M'.1 (o + 25) 1 = nI (c1S p a) ∧ M'.1 (o + 25) 2 = nI (c2S p a) ∧ M'.1 o 52 = toS cf g p a ∧ M'.1 o 53 = sdS cf g p a := by
  have hc0 := c0_lt cf g p a
  have hc1 := c1_lt p a
  have hc2 := c2_lt p a
  have hpo : ∀ (A : Mem) (k : Nat) (v : Int32), (pI A (o + 25) k v).1 o = A.1 o := fun A k v => (pI_o o (by omega)).1
  have e0 : (2 : Int32) * irm (nI a) 8 + fsS cf g p a = nI (c0S cf g p a) := by
    rw [show irm (nI a) 8 = nI (a % 8) from pk_rem (a := a) (d := 8) (by omega) (by omega) (by omega), nI_2]
    unfold c0S
    rcases fs_01 cf g p a with h | h
    · rw [h, if_neg (by decide)]
      exact nI_add _ 0
    · rw [h, if_pos rfl]
      exact nI_add _ 1
  have e1 : (16 : Int32) + irm (nI a ^^^ (lN p &&& 15).toInt32) 16 = nI (c1S p a) := by
    have hx : a ^^^ (p % 16) < 2 ^ 6 := Nat.xor_lt_two_pow (by omega) (by omega)
    rw [show lN p &&& 15 = lN (p % 16) from lN_mask (k := 4), lN_i, nI_xor', show irm (nI (a ^^^ p % 16)) 16 = nI ((a ^^^ p % 16) % 16) from pk_rem (d := 16) (by omega) (by omega) (by omega), show (16 : Int32) + nI ((a ^^^ p % 16) % 16) = nI (16 + (a ^^^ p % 16) % 16) from nI_add 16 _]
    unfold c1S
    rw [show (16 : Nat) = 2 ^ 4 from rfl, Nat.xor_mod_two_pow, Nat.xor_mod_two_pow, Nat.mod_mod]
  have e2 : (32 : Int32) + irm (nI a ^^^ nI (FD p 4 12)) 16 = nI (c2S p a) := by
    have hx : a ^^^ FD p 4 12 < 2 ^ 6 := Nat.xor_lt_two_pow (by omega) (Nat.lt_of_lt_of_le (FD_lt p (by omega) 12) (by decide))
    rw [nI_xor', show irm (nI (a ^^^ FD p 4 12)) 16 = nI ((a ^^^ FD p 4 12) % 16) from pk_rem (d := 16) (by omega) (by omega) (by omega), show (32 : Int32) + nI ((a ^^^ FD p 4 12) % 16) = nI (32 + (a ^^^ FD p 4 12) % 16) from nI_add 32 _]
    rfl
  unfold fX10_askCorrector
  simp only [hpo, pI_2]
  rw [show ib (0 : Int32) 3 = true from by decide, ck_t, show ib (1 : Int32) 3 = true from by decide, ck_t, show tn (0 : Int32) = 0 from by decide, show tn (1 : Int32) = 1 from by decide, show tn (2 : Int32) = 2 from by decide, hT.1, hT.2.2.2.2.2.2.2, hG.2.2.1, e0, e1]
  have qA : QS o M (pI (pI M (o + 25) 0 (nI (c0S cf g p a))) (o + 25) 1 (nI (c1S p a))) := (QS.c (by omega)).tr (QS.c (by omega))
  rw [show (12 : Int32) = nI 12 from rfl, show (4 : Int32) = nI 4 from rfl, fold_M o _ p 12 4 (hG.mv qA).2.2.1 (by have := hG.2.2.2; omega) (by omega) (by omega) (by omega), bI_s, show ib (2 : Int32) 3 = true from by decide, ck_t, e2]
  simp only [hpo]
  have qB : QS o M (pI (pI (pI M (o + 25) 0 (nI (c0S cf g p a))) (o + 25) 1 (nI (c1S p a))) (o + 25) 2 (nI (c2S p a))) := qA.tr (QS.c (by omega))
  have r0 : (pI (pI (pI M (o + 25) 0 (nI (c0S cf g p a))) (o + 25) 1 (nI (c1S p a))) (o + 25) 2 (nI (c2S p a))).1 (o + 25) 0 = nI (c0S cf g p a) := by rw [pI_1, pI_1, pI_1]; simp
  have r1 : (pI (pI (pI M (o + 25) 0 (nI (c0S cf g p a))) (o + 25) 1 (nI (c1S p a))) (o + 25) 2 (nI (c2S p a))).1 (o + 25) 1 = nI (c1S p a) := by rw [pI_1, pI_1]; simp
  have r2 : (pI (pI (pI M (o + 25) 0 (nI (c0S cf g p a))) (o + 25) 1 (nI (c1S p a))) (o + 25) 2 (nI (c2S p a))).1 (o + 25) 2 = nI (c2S p a) := by rw [pI_1]; simp
  have tB : TM cf g p a o (pI (pI (pI M (o + 25) 0 (nI (c0S cf g p a))) (o + 25) 1 (nI (c1S p a))) (o + 25) 2 (nI (c2S p a))) := hT.mv (by rw [(pI_o (o + 23) (by omega)).1, (pI_o (o + 23) (by omega)).1, (pI_o (o + 23) (by omega)).1]) (by rw [(pI_o (o + 24) (by omega)).1, (pI_o (o + 24) (by omega)).1, (pI_o (o + 24) (by omega)).1]) (fun k _ _ => by rw [hpo, hpo, hpo])
  generalize pI (pI (pI M (o + 25) 0 (nI (c0S cf g p a))) (o + 25) 1 (nI (c1S p a))) (o + 25) 2 (nI (c2S p a)) = M1 at *
  rw [hT.2.2.2.2.2.2.2]
  have hG1 := hG.mv qB
  have q9 : ∀ A : Mem, (∀ c, ¬ c = o → A.1 c = M1.1 c) → A.1 (o + 22) = g 9 := fun A hA => by rw [hA (o + 22) (by omega), ← hG1.2.1]; rfl
  have key : ∀ s : Int32, s = (if fsS cf g p a = 1 then 6 else -6) → ∃ M', fX10_askCorrector_86 o o s M1 = some M' ∧ QS o M M' ∧ TM cf g p a o M' ∧ M'.1 (o + 25) 0 = nI (c0S cf g p a) ∧ M'.1 (o + 25) 1 = nI (c1S p a) ∧ M'.1 (o + 25) 2 = nI (c2S p a) ∧ M'.1 o 52 = toS cf g p a ∧ M'.1 o 53 = sdS cf g p a := by
    intro s hs
    have step : ∀ (f k c : Nat) (MM : Mem), k < 3 → c < 48 → MM.1 (o + 25) k = nI c → MM.1 (o + 22) = g 9 → fX10_askCorrector_91 (f + 1) o (nI k) MM = fX10_askCorrector_91 f o (nI (k + 1)) (pI MM o 52 (MM.1 o 52 + (2 * g 9 c + 1))) := by
      intro f k c MM hk hcc hr hq
      rw [fX10_askCorrector_91, if_neg (by rw [show (3 : Int32) = nI 3 from rfl]; exact nI_ge hk (by omega)), ib_n hk (by omega), ck_t, tn_n (by omega), hr, ib_n hcc (by omega), ck_t, tn_n (by omega), hq, nI_1]
    unfold fX10_askCorrector_86
    rw [show LF = 99996 + 1 + 1 + 1 + 1 from rfl, show (0 : Int32) = nI 0 from rfl]
    have wA : ∀ c, ¬ c = o → (pI M1 o 52 s).1 c = M1.1 c := fun c hc => (pI_o c hc).1
    have kA : ∀ k, ¬ k = 52 → (pI M1 o 52 s).1 o k = M1.1 o k := fun k hk => by rw [pI_1, if_pos rfl, if_neg hk]
    have qA1 : QS o M1 (pI M1 o 52 s) := QS.o (by omega)
    have a4 : (pI M1 o 52 s).1 o 52 = s := by rw [pI_1]; simp
    generalize pI M1 o 52 s = A at *
    rw [step _ 0 (c0S cf g p a) A (by omega) (by omega) (by rw [wA (o + 25) (by omega)]; exact r0) (q9 A wA), a4]
    have wB : ∀ c, ¬ c = o → (pI A o 52 (s + (2 * g 9 (c0S cf g p a) + 1))).1 c = M1.1 c := fun c hc => by rw [(pI_o c hc).1, wA c hc]
    have kB : ∀ k, ¬ k = 52 → (pI A o 52 (s + (2 * g 9 (c0S cf g p a) + 1))).1 o k = M1.1 o k := fun k hk => by rw [pI_1, if_pos rfl, if_neg hk, kA k hk]
    have qB1 : QS o M1 (pI A o 52 (s + (2 * g 9 (c0S cf g p a) + 1))) := qA1.tr (QS.o (by omega))
    have b4 : (pI A o 52 (s + (2 * g 9 (c0S cf g p a) + 1))).1 o 52 = s + (2 * g 9 (c0S cf g p a) + 1) := by rw [pI_1]; simp
    generalize pI A o 52 (s + (2 * g 9 (c0S cf g p a) + 1)) = B at *
    rw [step _ 1 (c1S p a) B (by omega) (by omega) (by rw [wB (o + 25) (by omega)]; exact r1) (q9 B wB), b4]
    have wC : ∀ c, ¬ c = o → (pI B o 52 (s + (2 * g 9 (c0S cf g p a) + 1) + (2 * g 9 (c1S p a) + 1))).1 c = M1.1 c := fun c hc => by rw [(pI_o c hc).1, wB c hc]
    have kC : ∀ k, ¬ k = 52 → (pI B o 52 (s + (2 * g 9 (c0S cf g p a) + 1) + (2 * g 9 (c1S p a) + 1))).1 o k = M1.1 o k := fun k hk => by rw [pI_1, if_pos rfl, if_neg hk, kB k hk]
    have qC1 : QS o M1 (pI B o 52 (s + (2 * g 9 (c0S cf g p a) + 1) + (2 * g 9 (c1S p a) + 1))) := qB1.tr (QS.o (by omega))
    have d4 : (pI B o 52 (s + (2 * g 9 (c0S cf g p a) + 1) + (2 * g 9 (c1S p a) + 1))).1 o 52 = s + (2 * g 9 (c0S cf g p a) + 1) + (2 * g 9 (c1S p a) + 1) := by rw [pI_1]; simp
    generalize pI B o 52 (s + (2 * g 9 (c0S cf g p a) + 1) + (2 * g 9 (c1S p a) + 1)) = CC at *
    rw [step _ 2 (c2S p a) CC (by omega) (by omega) (by rw [wC (o + 25) (by omega)]; exact r2) (q9 CC wC), d4]
    have wD : ∀ c, ¬ c = o → (pI CC o 52 (s + (2 * g 9 (c0S cf g p a) + 1) + (2 * g 9 (c1S p a) + 1) + (2 * g 9 (c2S p a) + 1))).1 c = M1.1 c := fun c hc => by rw [(pI_o c hc).1, wC c hc]
    have kD : ∀ k, ¬ k = 52 → (pI CC o 52 (s + (2 * g 9 (c0S cf g p a) + 1) + (2 * g 9 (c1S p a) + 1) + (2 * g 9 (c2S p a) + 1))).1 o k = M1.1 o k := fun k hk => by rw [pI_1, if_pos rfl, if_neg hk, kC k hk]
    have qD1 : QS o M1 (pI CC o 52 (s + (2 * g 9 (c0S cf g p a) + 1) + (2 * g 9 (c1S p a) + 1) + (2 * g 9 (c2S p a) + 1))) := qC1.tr (QS.o (by omega))
    have f4 : (pI CC o 52 (s + (2 * g 9 (c0S cf g p a) + 1) + (2 * g 9 (c1S p a) + 1) + (2 * g 9 (c2S p a) + 1))).1 o 52 = toS cf g p a := by rw [pI_1]; simp [hs]; rfl
    generalize pI CC o 52 (s + (2 * g 9 (c0S cf g p a) + 1) + (2 * g 9 (c1S p a) + 1) + (2 * g 9 (c2S p a) + 1)) = DD at *
    rw [fX10_askCorrector_91, if_pos (by decide), f4]
    have out : ∀ v, v = sdS cf g p a → ∃ M', some (pI DD o 53 v) = some M' ∧ QS o M M' ∧ TM cf g p a o M' ∧ M'.1 (o + 25) 0 = nI (c0S cf g p a) ∧ M'.1 (o + 25) 1 = nI (c1S p a) ∧ M'.1 (o + 25) 2 = nI (c2S p a) ∧ M'.1 o 52 = toS cf g p a ∧ M'.1 o 53 = sdS cf g p a := by
      intro v hv
      have w25 : (pI DD o 53 v).1 (o + 25) = M1.1 (o + 25) := by rw [(pI_o (o + 25) (by omega)).1, wD (o + 25) (by omega)]
      refine ⟨_, rfl, qB.tr (qD1.tr (QS.o (by omega))), tB.mv (by rw [(pI_o (o + 23) (by omega)).1, wD (o + 23) (by omega)]) (by rw [(pI_o (o + 24) (by omega)).1, wD (o + 24) (by omega)]) (fun k k1 k2 => by rw [pI_1, if_pos rfl, if_neg (by omega), kD k (by omega)]), by rw [w25]; exact r0, by rw [w25]; exact r1, by rw [w25]; exact r2, by rw [pI_1]; simp [f4], by rw [pI_1]; simp [hv]⟩
    by_cases h : toS cf g p a ≤ 0
    · rw [if_pos h]; exact out 0 (by unfold sdS; rw [if_pos h])
    · rw [if_neg h]; exact out 1 (by unfold sdS; rw [if_neg h])
  by_cases h : fsS cf g p a = 1
  · rw [if_pos h]; exact key 6 (by rw [if_pos h])
  · rw [if_neg h]; exact key (-6) (by rw [if_neg h])
theorem sure3 {x : Int32} (h : x.toInt ≤ 3) : x = 3 ↔ (3 : Int32) ≤ x := by
  have e : (3 : Int32).toInt = 3 := by decide
  rw [fa_le, e]
  constructor
  · intro z; rw [z, e]; omega
  · intro z; exact Int32.toInt_inj.mp (by rw [e]; omega)
theorem lsM {cf : Cfg} (hc : CfgOk cf) {g : GS} {p a o : Nat} {M : Mem} (ha : a < 64) (hI : GI g) (hG : GM cf g p o M) (h44 : M.1 o 44 = nI a) : fX10_loopSays o M = some (lsS cf g a, M) := by
  unfold fX10_loopSays lsS
  have hpar := hc.2.2.2.2.2.1
  rw [show (1 : Int32) = nI 1 from rfl, hasM hG.1.2.2.2.2.2.1 hpar, bI_s, h44, show irm (nI a) 8 = nI (a % 8) from pk_rem (a := a) (d := 8) (by omega) (by omega) (by omega), ib_n (show a % 8 < 8 by omega) (by omega), tn_n (by omega)]
  simp only [ck_t]
  rw [show M.1 (o + 17) (a % 8) = g 4 (a % 8) from by rw [← hG.2.1]; rfl, show M.1 (o + 18) (a % 8) = g 5 (a % 8) from by rw [← hG.2.1]; rfl, show M.1 (o + 19) (a % 8) = g 6 (a % 8) from by rw [← hG.2.1]; rfl, show M.1 (o + 20) (a % 8) = g 7 (a % 8) from by rw [← hG.2.1]; rfl]
  simp only [sure3 (hI.2 (a % 8) (by omega)).1]
  by_cases h1 : hs cf 1 = true
  · rw [if_neg (by rw [wkI_0, h1]; simp), if_pos h1]
    split
    · split
      · split <;> rfl
      · rfl
    · rfl
  · rw [if_pos (by rw [wkI_0]; simpa using h1), if_neg h1]
theorem sd_n1 (cf : Cfg) (g : GS) (p a : Nat) : ¬ sdS cf g p a = -1 := by
  rcases sd_01 cf g p a with h | h <;> rw [h] <;> decide
theorem askM {cf : Cfg} (hc : CfgOk cf) {g : GS} {p a o : Nat} {M : Mem} (ha : a < 64) (hI : GI g) (hG : GM cf g p o M) : ∃ M1, fX10_ask o (nI a) M = some M1 ∧ QS o M M1 ∧ GM cf g p o M1 ∧ AM cf g p a o M1 := by
  have hpar := hc.2.2.2.2.2.1
  unfold fX10_ask
  have q0 : QS o M (pI M o 44 (nI a)) := QS.o (by omega)
  have e44 : (pI M o 44 (nI a)).1 o 44 = nI a := by rw [pI_1]; simp
  generalize pI M o 44 (nI a) = M0 at *
  have hG0 := hG.mv q0
  unfold fX10_askTables
  obtain ⟨M1, e1, q1, T1⟩ := tabM hc ha (cf 3) 1 LF M0 (by omega) (by omega) (by unfold LF; have := hc.2.2.2.1; omega) hG0 e44 (fun t a b => by omega)
  rw [show (1 : Int32) = nI 1 from rfl, e1, bV_s]
  have hG1 := hG0.mv q1
  obtain ⟨M2, e2, q2, T2, p0, p1, p2, r52, r53⟩ := corrM ha hG1 T1
  have hG2 := hG1.mv q2
  rw [e2, bV_s]
  rw [show (pI M2 o 55 0).1 o 50 = fsS cf g p a from by rw [pI_1]; simp; exact T2.2.2.2.2.2.2.2]
  have q02 := q0.tr (q1.tr q2)
  -- any way of setting 54 and 55
  have fin : ∀ (A : Mem) (x w : Int32), QS o M2 A → (∀ c, ¬ c = o → A.1 c = M2.1 c) → (∀ k, ¬ k = 54 → ¬ k = 55 → A.1 o k = M2.1 o k) → A.1 o 54 = x → A.1 o 55 = w → (lsS cf g a = -1 → x = anS cf g p a ∧ w = whS cf g p a) → ∃ M1, fX10_ask_72 o A = some M1 ∧ QS o M M1 ∧ GM cf g p o M1 ∧ AM cf g p a o M1 := by
    intro A x w qA oA kA xA wA hx
    unfold fX10_ask_72
    have hGA := hG2.mv qA
    rw [lsM hc ha hI hGA (by rw [kA 44 (by omega) (by omega)]; exact T2.1), bI_s]
    have TA : TM cf g p a o A := T2.mv (oA _ (by omega)) (oA _ (by omega)) (fun k _ _ => kA k (by omega) (by omega))
    by_cases hl : lsS cf g a = -1
    · rw [if_pos hl]
      refine ⟨A, rfl, q02.tr qA, hGA, TA, by rw [oA (o + 25) (by omega)]; exact p0, by rw [oA (o + 25) (by omega)]; exact p1, by rw [oA (o + 25) (by omega)]; exact p2, by rw [kA 52 (by omega) (by omega)]; exact r52, by rw [kA 53 (by omega) (by omega)]; exact r53, by rw [xA]; exact (hx hl).1, by rw [wA]; exact (hx hl).2⟩
    · rw [if_neg hl]
      have qB : QS o A (pI (pI A o 55 1) o 54 (lsS cf g a)) := (QS.o (by omega)).tr (QS.o (by omega))
      have oB : ∀ c, ¬ c = o → (pI (pI A o 55 1) o 54 (lsS cf g a)).1 c = M2.1 c := fun c hc => by rw [(pI_o c hc).1, (pI_o c hc).1, oA c hc]
      have kB : ∀ k, ¬ k = 54 → ¬ k = 55 → (pI (pI A o 55 1) o 54 (lsS cf g a)).1 o k = M2.1 o k := fun k k1 k2 => by rw [pI_1, if_pos rfl, if_neg k1, pI_1, if_pos rfl, if_neg k2, kA k k1 k2]
      refine ⟨_, rfl, q02.tr (qA.tr qB), hGA.mv qB, T2.mv (oB _ (by omega)) (oB _ (by omega)) (fun k _ _ => kB k (by omega) (by omega)), by rw [oB (o + 25) (by omega)]; exact p0, by rw [oB (o + 25) (by omega)]; exact p1, by rw [oB (o + 25) (by omega)]; exact p2, by rw [kB 52 (by omega) (by omega)]; exact r52, by rw [kB 53 (by omega) (by omega)]; exact r53, ?_, ?_⟩
      · rw [pI_1]; simp; unfold anS; rw [if_neg hl]
      · rw [pI_1, pI_1]; simp; unfold whS; rw [if_neg hl]
  have qA : QS o M2 (pI (pI M2 o 55 0) o 54 (fsS cf g p a)) := (QS.o (by omega)).tr (QS.o (by omega))
  have oA : ∀ c, ¬ c = o → (pI (pI M2 o 55 0) o 54 (fsS cf g p a)).1 c = M2.1 c := fun c hc => by rw [(pI_o c hc).1, (pI_o c hc).1]
  have kA : ∀ k, ¬ k = 54 → ¬ k = 55 → (pI (pI M2 o 55 0) o 54 (fsS cf g p a)).1 o k = M2.1 o k := fun k k1 k2 => by rw [pI_1, if_pos rfl, if_neg k1, pI_1, if_pos rfl, if_neg k2]
  have x54 : (pI (pI M2 o 55 0) o 54 (fsS cf g p a)).1 o 54 = fsS cf g p a := by rw [pI_1]; simp
  have x55 : (pI (pI M2 o 55 0) o 54 (fsS cf g p a)).1 o 55 = 0 := by rw [pI_1, pI_1]; simp
  generalize pI (pI M2 o 55 0) o 54 (fsS cf g p a) = A at *
  have hGA := hG2.mv qA
  rw [show (2 : Int32) = nI 2 from rfl, hasM hGA.1.2.2.2.2.2.1 hpar, bI_s, kA 53 (by omega) (by omega), kA 50 (by omega) (by omega), kA 52 (by omega) (by omega), r53, r52, T2.2.2.2.2.2.2.2, show A.1 o 39 = g 13 0 from by rw [← hGA.2.1]; rfl]
  rw [show (if (0 : Int32) ≤ toS cf g p a then toS cf g p a else 0 - toS cf g p a) = ab (toS cf g p a) from rfl]
  have same : csS cf g p a = -1 → ∃ M1, fX10_ask_72 o A = some M1 ∧ QS o M M1 ∧ GM cf g p o M1 ∧ AM cf g p a o M1 := fun hcs => fin A _ _ qA oA kA x54 x55 (fun hl => ⟨by unfold anS; rw [if_pos hl, if_pos hcs], by unfold whS; rw [if_pos hl, if_pos hcs]⟩)
  by_cases h2 : hs cf 2 = true
  · rw [if_neg (by rw [wkI_0, h2]; simp)]
    by_cases hsf : sdS cf g p a = fsS cf g p a
    · rw [if_pos hsf]; exact same (by unfold csS; rw [if_pos h2, if_pos hsf])
    · rw [if_neg hsf]
      by_cases hlim : ab (toS cf g p a) < g 13 0
      · rw [if_pos hlim]; exact same (by unfold csS; rw [if_pos h2, if_neg hsf, if_pos hlim])
      · rw [if_neg hlim, show (pI A o 55 (nI 2)).1 o 53 = sdS cf g p a from by rw [pI_1]; simp; rw [kA 53 (by omega) (by omega)]; exact r53]
        have hcs : csS cf g p a = sdS cf g p a := by unfold csS; rw [if_pos h2, if_neg hsf, if_neg hlim]
        refine fin (pI (pI A o 55 (nI 2)) o 54 (sdS cf g p a)) (sdS cf g p a) 2 (qA.tr ((QS.o (by omega)).tr (QS.o (by omega)))) (fun c hc => by rw [(pI_o c hc).1, (pI_o c hc).1, oA c hc]) (fun k k1 k2 => by rw [pI_1, if_pos rfl, if_neg k1, pI_1, if_pos rfl, if_neg k2, kA k k1 k2]) (by rw [pI_1]; simp) (by rw [pI_1, pI_1]; simp; rfl) (fun hl => ⟨?_, ?_⟩)
        · unfold anS; rw [if_pos hl, hcs, if_neg (sd_n1 cf g p a)]
        · unfold whS; rw [if_pos hl, hcs, if_neg (sd_n1 cf g p a)]
  · rw [if_pos (by rw [wkI_0]; simpa using h2)]; exact same (by unfold csS; rw [if_neg h2])
