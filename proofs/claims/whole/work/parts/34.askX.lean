/-! The class's asking against the GUESSER's mathematics. -/
theorem i64_lt_nle {a b : Int64} : a < b ↔ ¬ b ≤ a := by rw [fa_lt64, fa_le64]; omega
theorem i32_lt_nle {a b : Int32} : a < b ↔ ¬ b ≤ a := by rw [fa_lt, fa_le]; omega
theorem i32_le_nlt {a b : Int32} : a ≤ b ↔ ¬ b < a := by rw [fa_lt, fa_le]; omega
theorem wiX (l0 l2 l4 : Int64) (M : Mem) : fX9_within l0 l2 l4 M = some (if l2 ≤ l0 ∧ l0 ≤ l4 then 1 else 0, M) := by
  unfold fX9_within
  by_cases h1 : l2 ≤ l0
  · rw [if_neg (by rw [lg_cmp_lt, i64_lt_nle]; exact fun h => h h1)]
    by_cases h2 : l0 ≤ l4
    · rw [if_neg (by rw [lg_cmp_gt, i64_lt_nle]; exact fun h => h h2), if_pos ⟨h1, h2⟩]
    · rw [if_pos (by rw [lg_cmp_gt, i64_lt_nle]; exact h2), if_neg (fun h => h2 h.2)]
  · rw [if_pos (by rw [lg_cmp_lt, i64_lt_nle]; exact h1), if_neg (fun h => h1 h.1)]
theorem wi32 (x y z : Int32) (M : Mem) : fX9_within x.toInt64 y.toInt64 z.toInt64 M = some (if y ≤ x ∧ x ≤ z then 1 else 0, M) := by
  rw [wiX]; simp only [fa_wide_le]
theorem L64_0 : (0 : Int64) = (0 : Int32).toInt64 := by decide
theorem L64_m1 : (-1 : Int64) = (-1 : Int32).toInt64 := by decide
theorem if_10 (c : Prop) [Decidable c] : ((if c then (1 : Int32) else 0) = 0) ↔ ¬ c := by
  by_cases h : c <;> simp [h]
theorem isB_if (c : Prop) [Decidable c] : isB (if c then (1 : Int32) else 0) = true := by
  by_cases h : c <;> simp [h] <;> rfl
def wkI (b : Bool) : Int32 := if b = true then 1 else 0
theorem wkI_0 (b : Bool) : wkI b = 0 ↔ b = false := by cases b <;> simp [wkI]
theorem wkI_B (b : Bool) : isB (wkI b) = true := by cases b <;> rfl
theorem look_fin {cf : Cfg} (hc : CfgOk cf) {g : GS} {p a q : Nat} {M : Mem} (hp : PLX cf p a q M) (h1 : M.1 (q + 3) = g 1) (h3 : M.1 (q + 5) = g 3) (ht : M.1 q 10 = g 10 0) (hpv : M.1 q 15 = nI (pvS cf g p a)) (hat : M.1 q 16 = nI (atS cf g p a)) :
    fX6_look_173 q (wkI (hs cf 4)) q (wkI (wkS cf g p a)) M = some (pI (pI M q 17 (wkI (wkS cf g p a))) q 18 (fsS cf g p a)) := by
  have hp2 : PLX cf p a q (pI M q 17 (wkI (wkS cf g p a))) := hp.mv (by rw [pI_1]; simp) (fun t => by rw [(pI_o (q + 6) (by omega)).1])
  have e1 : (pI M q 17 (wkI (wkS cf g p a))).1 (q + 3) = g 1 := by rw [(pI_o (q + 3) (by omega)).1]; exact h1
  have e3 : (pI M q 17 (wkI (wkS cf g p a))).1 (q + 5) = g 3 := by rw [(pI_o (q + 5) (by omega)).1]; exact h3
  have e17 : (pI M q 17 (wkI (wkS cf g p a))).1 q 17 = wkI (wkS cf g p a) := by rw [pI_1]; simp
  have e10 : (pI M q 17 (wkI (wkS cf g p a))).1 q 10 = g 10 0 := by rw [pI_1]; simp [ht]
  have e15 : (pI M q 17 (wkI (wkS cf g p a))).1 q 15 = nI (pvS cf g p a) := by rw [pI_1]; simp [hpv]
  have e16 : (pI M q 17 (wkI (wkS cf g p a))).1 q 16 = nI (atS cf g p a) := by rw [pI_1]; simp [hat]
  have s1 := syX hc hp2 e3 e1 (pv_le cf g p a) (fun h => pv_ne cf g p a (by omega))
  have s2 := syX hc hp2 e3 e1 (at_le cf g p a) (fun h => at_ne cf g p a (by omega))
  have r206 : fX6_look_206 q q q (pI M q 17 (wkI (wkS cf g p a))) = some (pI (pI M q 17 (wkI (wkS cf g p a))) q 18 (syS cf g p a (pvS cf g p a))) := by
    unfold fX6_look_206 fX6_look_210
    rw [e15, s1, bI_s]
  have r210 : fX6_look_210 q q (nI (atS cf g p a)) (pI M q 17 (wkI (wkS cf g p a))) = some (pI (pI M q 17 (wkI (wkS cf g p a))) q 18 (syS cf g p a (atS cf g p a))) := by
    unfold fX6_look_210
    rw [s2, bI_s]
  unfold fX6_look_173
  rw [wkI_B, ck_t, e17, e10, e16, r206, r210]
  unfold fsS
  by_cases hw : wkS cf g p a = true
  · rw [if_neg (by rw [wkI_0, hw]; simp)]
    by_cases h4 : hs cf 4 = true
    · rw [if_neg (by rw [wkI_0, h4]; simp)]
      by_cases h7 : (7 : Int32) < g 10 0
      · rw [if_neg (by rw [i32_le_nlt]; exact fun h => h h7), if_pos (by simp [hw, h4, h7])]
      · rw [if_pos (by rw [i32_le_nlt]; exact h7), if_neg (by simp [h7])]
    · rw [if_pos (by rw [wkI_0]; simpa using h4), if_neg (by simp [h4])]
  · rw [if_pos (by rw [wkI_0]; simpa using hw), if_neg (by simp [hw])]
def LKX (cf : Cfg) (g : GS) (p a q : Nat) (M M' : Mem) : Prop := (∀ c, ¬ c = q → ¬ c = q + 6 → M'.1 c = M.1 c) ∧ M'.2 = M.2 ∧ (∀ k, k < 14 → M'.1 q k = M.1 q k) ∧ PLX cf p a q M' ∧ M'.1 q 15 = nI (pvS cf g p a) ∧ M'.1 q 16 = nI (atS cf g p a) ∧ M'.1 q 17 = wkI (wkS cf g p a) ∧ M'.1 q 18 = fsS cf g p a
theorem lookX {cf : Cfg} (hc : CfgOk cf) {g : GS} {a q P : Nat} {M : Mem} (ha : a < 64) (hP : P < 2 ^ 64) (hK : KT cf q M) (h0 : M.1 (q + 2) = g 0) (h1 : M.1 (q + 3) = g 1) (h2 : M.1 (q + 4) = g 2) (h3 : M.1 (q + 5) = g 3) (ht : M.1 q 10 = g 10 0) :
    ∃ M', fX6_look q (nI a) (lN P) (wkI (hs cf 4)) M = some M' ∧ LKX cf g (P % 2 ^ 40) a q M M' := by
  have h5 := hc.2.2.2.1
  unfold fX6_look
  rw [show irm (nI a) 16 = nI (a % 16) from pk_rem (a := a) (d := 16) (by omega) (by omega) (by omega)]
  generalize hMb : pI (pI (pI M q 14 (nI (a % 16))) q 15 0) q 16 0 = Mb
  have bo : ∀ c, ¬ c = q → Mb.1 c = M.1 c := fun c c1 => by rw [← hMb, (pI_o c c1).1, (pI_o c c1).1, (pI_o c c1).1]
  have b2 : Mb.2 = M.2 := by rw [← hMb]; rfl
  have bq : ∀ k, k < 14 → Mb.1 q k = M.1 q k := fun k hk => by rw [← hMb, pI_1, pI_1, pI_1]; simp [show ¬ k = 16 by omega, show ¬ k = 15 by omega, show ¬ k = 14 by omega]
  have b14 : Mb.1 q 14 = nI (a % 16) := by rw [← hMb, pI_1, pI_1, pI_1]; simp
  have hKb : KT cf q Mb := hK.mv (fun k hk => bq k (by omega)) (fun t => by rw [bo (q + 1) (by omega)])
  have hL : LI cf g (P % 2 ^ 40) a q Mb 1 Mb := ⟨fun c _ _ => rfl, rfl, fun _ _ _ => rfl, by rw [← hMb, pI_1, pI_1]; simp [prS]; rfl, by rw [← hMb, pI_1]; simp [alS]; rfl, fun u u1 u2 => by omega⟩
  obtain ⟨M1, hL1, e⟩ := look_loop hc ha hP hKb (by rw [bo (q + 2) (by omega)]; exact h0) (wkI (hs cf 4)) (cf 3) 1 LF Mb (by omega) (by omega) (by unfold LF; omega) hL
  rw [show (1 : Int32) = nI 1 from rfl, e]
  obtain ⟨l1, l2, l3, l4, l5, l6⟩ := hL1
  clear e hL
  generalize P % 2 ^ 40 = p at l4 l5 l6 ⊢
  have hpv : M1.1 q 15 = nI (pvS cf g p a) := l4
  have hat : M1.1 q 16 = nI (atS cf g p a) := l5
  have hp1 : PLX cf p a q M1 := ⟨by rw [l3 14 (by omega) (by omega)]; exact b14, fun t t1 t2 t3 => l6 t t1 (by omega) t3⟩
  have r1 : M1.1 (q + 3) = g 1 := by rw [l1 (q + 3) (by omega) (by omega), bo (q + 3) (by omega)]; exact h1
  have r2 : M1.1 (q + 4) = g 2 := by rw [l1 (q + 4) (by omega) (by omega), bo (q + 4) (by omega)]; exact h2
  have r3 : M1.1 (q + 5) = g 3 := by rw [l1 (q + 5) (by omega) (by omega), bo (q + 5) (by omega)]; exact h3
  have r10 : M1.1 q 10 = g 10 0 := by rw [l3 10 (by omega) (by omega), bq 10 (by omega)]; exact ht
  have rl : M1.1 q 3 = nI (cf 3) := by rw [l3 3 (by omega) (by omega)]; exact hKb.2.2.2.1
  have fin := look_fin hc hp1 r1 r3 r10 hpv hat
  refine ⟨pI (pI M1 q 17 (wkI (wkS cf g p a))) q 18 (fsS cf g p a), ?_, ?_⟩
  · rw [fX6_look_21, rl, if_pos (nI_lt (by omega) (by omega))]
    have hle := pv_le cf g p a
    by_cases h : pvS cf g p a = 0
    · rw [if_pos (by rw [hpv, h]; decide)]
      unfold fX6_look_172
      have ew : wkS cf g p a = false := by simp [wkS, h]
      rw [ew] at fin ⊢
      exact fin
    · have hpl := pl_lt hc p a (show 1 ≤ pvS cf g p a by omega) hle
      have hpp := hp1.2 _ (show 1 ≤ pvS cf g p a by omega) hle (pv_ne cf g p a (by omega))
      rw [if_neg (by rw [hpv]; exact nI_nle (by omega) (by omega)), hpv, ib_n (show pvS cf g p a < 6 by omega) (by omega), ck_t, tn_n (by omega), hpp, ib_n hpl (by omega), ck_t, tn_n (by omega), r2]
      by_cases hu : g 2 (plS cf p a (pvS cf g p a)) = 0
      · rw [if_pos hu, ck_t, ck_t, r1, L64_0, L64_m1, wi32, bI_s]
        by_cases hk : -1 ≤ g 1 (plS cf p a (pvS cf g p a)) ∧ g 1 (plS cf p a (pvS cf g p a)) ≤ 0
        · rw [if_pos hk, if_neg (by decide)]
          have ew : wkS cf g p a = true := by simp only [wkS, hu, hk.1, hk.2]; simp; omega
          rw [ew] at fin ⊢
          exact fin
        · rw [if_neg hk, if_pos rfl]
          unfold fX6_look_172
          have ew : wkS cf g p a = false := by
            simp only [wkS]
            by_cases hk1 : -1 ≤ g 1 (plS cf p a (pvS cf g p a))
            · have hk2 : ¬ g 1 (plS cf p a (pvS cf g p a)) ≤ 0 := fun h => hk ⟨hk1, h⟩
              simp [hk2]
            · simp [hk1]
          rw [ew] at fin ⊢
          exact fin
      · rw [if_neg hu]
        unfold fX6_look_172
        have ew : wkS cf g p a = false := by simp [wkS, hu]
        rw [ew] at fin ⊢
        exact fin
  · refine ⟨fun c c1 c2 => ?_, ?_, fun k hk => ?_, ?_, ?_, ?_, ?_, ?_⟩
    · rw [(pI_o c c1).1, (pI_o c c1).1, l1 c c1 c2, bo c c1]
    · rw [pI_2, pI_2, l2, b2]
    · rw [pI_1, pI_1]; simp [show ¬ k = 18 by omega, show ¬ k = 17 by omega]; rw [l3 k (by omega) (by omega), bq k hk]
    · exact hp1.mv (by rw [pI_1, pI_1]; simp) (fun t => by rw [(pI_o (q + 6) (by omega)).1, (pI_o (q + 6) (by omega)).1])
    · rw [pI_1, pI_1]; simp [hpv]
    · rw [pI_1, pI_1]; simp [hat]
    · rw [pI_1, pI_1]; simp
    · rw [pI_1]; simp
-- weigh
def WGX (cf : Cfg) (g : GS) (p a r : Nat) (M M' : Mem) : Prop := (∀ c, ¬ c = r → ¬ c = r + 2 → M'.1 c = M.1 c) ∧ M'.2 = M.2 ∧ (∀ k, k < 3 → M'.1 r k = M.1 r k) ∧ M'.1 (r + 2) 0 = nI (c0S cf g p a) ∧ M'.1 (r + 2) 1 = nI (c1S p a) ∧ M'.1 (r + 2) 2 = nI (c2S p a) ∧ M'.1 r 3 = fsS cf g p a ∧ M'.1 r 4 = toS cf g p a
theorem c0_lt (cf : Cfg) (g : GS) (p a : Nat) : c0S cf g p a < 16 := by
  unfold c0S
  split <;> omega
theorem c1_lt (p a : Nat) : c1S p a < 32 ∧ 16 ≤ c1S p a := by unfold c1S; omega
theorem c2_lt (p a : Nat) : c2S p a < 48 ∧ 32 ≤ c2S p a := by unfold c2S; omega
theorem weighX {cf : Cfg} {g : GS} {a r P : Nat} {M : Mem} (ha : a < 64) (hP : P < 2 ^ 64) (h9 : M.1 (r + 1) = g 9) :
    ∃ M', fX0_weigh r (nI a) (lN P) (fsS cf g (P % 2 ^ 40) a) M = some M' ∧ WGX cf g (P % 2 ^ 40) a r M M' := by
  generalize hp : P % 2 ^ 40 = p
  have hc0 := c0_lt cf g p a
  have hc1 := c1_lt p a
  have hc2 := c2_lt p a
  have e0 : (2 : Int32) * irm (nI a) 8 + fsS cf g p a = nI (c0S cf g p a) := by
    rw [show irm (nI a) 8 = nI (a % 8) from pk_rem (a := a) (d := 8) (by omega) (by omega) (by omega), nI_2]
    unfold c0S
    rcases fs_01 cf g p a with h | h
    · rw [h, if_neg (by decide)]
      exact nI_add _ 0
    · rw [h, if_pos rfl]
      exact nI_add _ 1
  have e1 : (16 : Int32) + ((nI a ^^^ (lN P).toInt32) &&& 15) = nI (c1S p a) := by
    rw [lN_i, nI_xor', show (nI (a ^^^ P) &&& 15) = nI ((a ^^^ P) % 16) from nI_mask (k := 4), show (16 : Int32) + nI ((a ^^^ P) % 16) = nI (16 + (a ^^^ P) % 16) from nI_add 16 _]
    unfold c1S
    rw [← hp, show (16 : Nat) = 2 ^ 4 from rfl, Nat.xor_mod_two_pow, Nat.xor_mod_two_pow, Nat.mod_mod_of_dvd P (Nat.pow_dvd_pow 2 (by omega))]
  have e2 : (32 : Int32) + ((nI a ^^^ nI (FD P 4 12)) &&& 15) = nI (c2S p a) := by
    rw [nI_xor', show (nI (a ^^^ FD P 4 12) &&& 15) = nI ((a ^^^ FD P 4 12) % 16) from nI_mask (k := 4), show (32 : Int32) + nI ((a ^^^ FD P 4 12) % 16) = nI (32 + (a ^^^ FD P 4 12) % 16) from nI_add 32 _]
    unfold c2S
    rw [← hp, FD_mod P 4 (by omega)]
  unfold fX0_weigh
  rw [show ib (0 : Int32) 3 = true from by decide, ck_t, show ib (1 : Int32) 3 = true from by decide, ck_t, show tn (0 : Int32) = 0 from by decide, show tn (1 : Int32) = 1 from by decide, show tn (2 : Int32) = 2 from by decide]
  rw [show (pI M r 3 (fsS cf g p a)).1 r 3 = fsS cf g p a from by rw [pI_1]; simp, e0, e1]
  rw [show (12 : Int32) = nI 12 from rfl, show (4 : Int32) = nI 4 from rfl, fold_X P 12 4 hP (by omega) (by omega) (by omega), bI_s, show ib (2 : Int32) 3 = true from by decide, ck_t, e2]
  generalize hM1 : pI (pI (pI (pI M r 3 (fsS cf g p a)) (r + 2) 0 (nI (c0S cf g p a))) (r + 2) 1 (nI (c1S p a))) (r + 2) 2 (nI (c2S p a)) = M1
  have o1 : ∀ c, ¬ c = r → ¬ c = r + 2 → M1.1 c = M.1 c := fun c c1 c2 => by rw [← hM1, (pI_o c c2).1, (pI_o c c2).1, (pI_o c c2).1, (pI_o c c1).1]
  have o2 : M1.2 = M.2 := by rw [← hM1]; rfl
  have r3 : M1.1 r 3 = fsS cf g p a := by rw [← hM1, (pI_o r (by omega)).1, (pI_o r (by omega)).1, (pI_o r (by omega)).1, pI_1]; simp
  have rk : ∀ k, k < 3 → M1.1 r k = M.1 r k := fun k hk => by rw [← hM1, (pI_o r (by omega)).1, (pI_o r (by omega)).1, (pI_o r (by omega)).1, pI_1]; simp [show ¬ k = 3 by omega]
  have q0 : M1.1 (r + 2) 0 = nI (c0S cf g p a) := by rw [← hM1, pI_1, pI_1, pI_1]; simp
  have q1 : M1.1 (r + 2) 1 = nI (c1S p a) := by rw [← hM1, pI_1, pI_1]; simp
  have q2 : M1.1 (r + 2) 2 = nI (c2S p a) := by rw [← hM1, pI_1]; simp
  have q9 : M1.1 (r + 1) = g 9 := by rw [o1 (r + 1) (by omega) (by omega)]; exact h9
  rw [r3]
  have key : ∀ s : Int32, ∃ M', fX0_weigh_76 r r s M1 = some M' ∧ (∀ c, ¬ c = r → M'.1 c = M1.1 c) ∧ M'.2 = M1.2 ∧ (∀ k, k < 4 → M'.1 r k = M1.1 r k) ∧ M'.1 r 4 = ((s + (2 * g 9 (c0S cf g p a) + 1)) + (2 * g 9 (c1S p a) + 1)) + (2 * g 9 (c2S p a) + 1) := by
    intro s
    have step : ∀ (f k c : Nat) (MM : Mem), k < 3 → c < 48 → MM.1 (r + 2) k = nI c → MM.1 (r + 1) = g 9 → fX0_weigh_82 (f + 1) r (nI k) MM = fX0_weigh_82 f r (nI (k + 1)) (pI MM r 4 (MM.1 r 4 + (2 * g 9 c + 1))) := by
      intro f k c MM hk hcc hr hq
      rw [fX0_weigh_82, if_neg (by rw [show (3 : Int32) = nI 3 from rfl]; exact nI_ge hk (by omega)), ib_n hk (by omega), ck_t, tn_n (by omega), hr, ib_n hcc (by omega), ck_t, tn_n (by omega), hq, nI_1]
    unfold fX0_weigh_76
    rw [show LF = 99996 + 1 + 1 + 1 + 1 from rfl, show (0 : Int32) = nI 0 from rfl]
    generalize hA : pI M1 r 4 s = A
    have a9 : A.1 (r + 1) = g 9 := by rw [← hA, (pI_o (r + 1) (by omega)).1]; exact q9
    have ap : ∀ k, A.1 (r + 2) k = M1.1 (r + 2) k := fun k => by rw [← hA, (pI_o (r + 2) (by omega)).1]
    have a4 : A.1 r 4 = s := by rw [← hA, pI_1]; simp
    rw [step _ 0 (c0S cf g p a) A (by omega) (by omega) (by rw [ap]; exact q0) a9, a4]
    generalize hB : pI A r 4 (s + (2 * g 9 (c0S cf g p a) + 1)) = B
    have b9 : B.1 (r + 1) = g 9 := by rw [← hB, (pI_o (r + 1) (by omega)).1]; exact a9
    have bp : ∀ k, B.1 (r + 2) k = M1.1 (r + 2) k := fun k => by rw [← hB, (pI_o (r + 2) (by omega)).1]; exact ap k
    have b4 : B.1 r 4 = s + (2 * g 9 (c0S cf g p a) + 1) := by rw [← hB, pI_1]; simp
    rw [step _ 1 (c1S p a) B (by omega) (by omega) (by rw [bp]; exact q1) b9, b4]
    generalize hC : pI B r 4 (s + (2 * g 9 (c0S cf g p a) + 1) + (2 * g 9 (c1S p a) + 1)) = CC
    have d9 : CC.1 (r + 1) = g 9 := by rw [← hC, (pI_o (r + 1) (by omega)).1]; exact b9
    have dp : ∀ k, CC.1 (r + 2) k = M1.1 (r + 2) k := fun k => by rw [← hC, (pI_o (r + 2) (by omega)).1]; exact bp k
    have d4 : CC.1 r 4 = s + (2 * g 9 (c0S cf g p a) + 1) + (2 * g 9 (c1S p a) + 1) := by rw [← hC, pI_1]; simp
    rw [step _ 2 (c2S p a) CC (by omega) (by omega) (by rw [dp]; exact q2) d9, d4, fX0_weigh_82, if_pos (by decide)]
    refine ⟨_, rfl, fun c c1 => ?_, ?_, fun k hk => ?_, ?_⟩
    · rw [(pI_o c c1).1, ← hC, (pI_o c c1).1, ← hB, (pI_o c c1).1, ← hA, (pI_o c c1).1]
    · rw [← hC, ← hB, ← hA]; rfl
    · rw [pI_1, ← hC, pI_1, ← hB, pI_1, ← hA, pI_1]; simp [show ¬ k = 4 by omega]
    · rw [pI_1]; simp
  have fin : ∀ s : Int32, s = (if fsS cf g p a = 1 then 6 else -6) → ∃ M', fX0_weigh_76 r r s M1 = some M' ∧ WGX cf g p a r M M' := by
    intro s hs
    obtain ⟨M', f1, f2, f3, f4, f5⟩ := key s
    refine ⟨M', f1, fun c c1 c2 => ?_, ?_, fun k hk => ?_, ?_, ?_, ?_, ?_, ?_⟩
    · rw [f2 c c1, o1 c c1 c2]
    · rw [f3, o2]
    · rw [f4 k (by omega), rk k hk]
    · rw [f2 (r + 2) (by omega)]; exact q0
    · rw [f2 (r + 2) (by omega)]; exact q1
    · rw [f2 (r + 2) (by omega)]; exact q2
    · rw [f4 3 (by omega)]; exact r3
    · rw [f5, hs]; rfl
  by_cases h : fsS cf g p a = 1
  · rw [if_pos h]; exact fin 6 (by rw [if_pos h])
  · rw [if_neg h]; exact fin (-6) (by rw [if_neg h])
