/-! The reference's guesser: asking. -/
def KM (cf : Cfg) (o : Nat) (M : Mem) : Prop := M.1 (o + 1) 0 = nI (cf 0) ∧ M.1 (o + 1) 1 = nI (cf 1) ∧ M.1 (o + 1) 2 = nI (cf 2) ∧ M.1 (o + 1) 6 = nI (cf 3) ∧ M.1 o 26 = nI (cf 4) ∧ M.1 o 25 = nI (cf 5) ∧ ∀ t, 1 ≤ t → t ≤ cf 3 → M.1 (o + 12) t = nI (cf (10 + t))
def vM (o : Nat) (M : Mem) : GS := fun i => match i with
  | 0 => M.1 (o + 13)
  | 1 => M.1 (o + 14)
  | 2 => M.1 (o + 15)
  | 3 => M.1 (o + 16)
  | 4 => M.1 (o + 17)
  | 5 => M.1 (o + 18)
  | 6 => M.1 (o + 19)
  | 7 => M.1 (o + 20)
  | 8 => M.1 (o + 21)
  | 9 => M.1 (o + 22)
  | 10 => fun _ => M.1 o 37
  | 11 => fun _ => M.1 o 38
  | 12 => fun _ => M.1 o 40
  | 13 => fun _ => M.1 o 39
  | _ => fun _ => 0
def GM (cf : Cfg) (g : GS) (p o : Nat) (M : Mem) : Prop := KM cf o M ∧ vM o M = g ∧ M.2 o 41 = lN p ∧ p < 2 ^ 40
def QS (o : Nat) (M M' : Mem) : Prop := (∀ c, ¬ c = o → ¬ (o + 23 ≤ c ∧ c ≤ o + 25) → M'.1 c = M.1 c) ∧ (∀ k, ¬ (44 ≤ k ∧ k ≤ 55) → M'.1 o k = M.1 o k) ∧ M'.2 = M.2
theorem QS.tr {o : Nat} {A B C : Mem} (h : QS o A B) (k : QS o B C) : QS o A C := ⟨fun c c1 c2 => (k.1 c c1 c2).trans (h.1 c c1 c2), fun j hj => (k.2.1 j hj).trans (h.2.1 j hj), k.2.2.trans h.2.2⟩
theorem QS.rf {o : Nat} {A : Mem} : QS o A A := ⟨fun _ _ _ => rfl, fun _ _ => rfl, rfl⟩
theorem QS.o {o k : Nat} {v : Int32} {A : Mem} (hk : 44 ≤ k ∧ k ≤ 55) : QS o A (pI A o k v) := ⟨fun c c1 _ => (pI_o c c1).1, fun j hj => by rw [pI_1, if_pos rfl, if_neg (by omega)], rfl⟩
theorem QS.c {o c k : Nat} {v : Int32} {A : Mem} (hc : 23 ≤ c ∧ c ≤ 25) : QS o A (pI A (o + c) k v) := ⟨fun b _ b2 => (pI_o b (by omega)).1, fun j _ => by rw [(pI_o o (by omega)).1], rfl⟩
theorem QS.v {o : Nat} {M M' : Mem} (h : QS o M M') : vM o M' = vM o M := by
  funext i
  unfold vM
  split
  all_goals first | exact h.1 _ (by omega) (by omega) | (funext _; exact h.2.1 _ (by omega)) | rfl
theorem KM.mv {cf : Cfg} {o : Nat} {M M' : Mem} (h : KM cf o M) (q : QS o M M') : KM cf o M' := by
  obtain ⟨h0, h1, h2, h3, h4, h5, h6⟩ := h
  have e1 := q.1 (o + 1) (by omega) (by omega)
  refine ⟨by rw [e1]; exact h0, by rw [e1]; exact h1, by rw [e1]; exact h2, by rw [e1]; exact h3, by rw [q.2.1 26 (by omega)]; exact h4, by rw [q.2.1 25 (by omega)]; exact h5, fun t a b => by rw [q.1 (o + 12) (by omega) (by omega)]; exact h6 t a b⟩
theorem GM.mv {cf : Cfg} {g : GS} {p o : Nat} {M M' : Mem} (h : GM cf g p o M) (q : QS o M M') : GM cf g p o M' := ⟨h.1.mv q, by rw [q.v]; exact h.2.1, by rw [q.2.2]; exact h.2.2.1, h.2.2.2⟩
theorem hasM {cf : Cfg} {o b : Nat} {M : Mem} (h : M.1 o 25 = nI (cf 5)) (hc : cf 5 < 8) : fX10_has o (nI b) M = some (wkI (hs cf b), M) := by
  unfold fX10_has
  have hlt : cf 5 &&& b < 2 ^ 31 := Nat.lt_of_le_of_lt Nat.and_le_left (by omega)
  rw [h, nI_and']
  by_cases e : cf 5 &&& b = 0
  · rw [e, if_pos (show nI 0 = 0 from rfl)]; simp [hs, e, wkI]
  · rw [if_neg (nI_ne0 (by omega) hlt)]; simp [hs, e, wkI]
theorem tablesM {o : Nat} {M : Mem} : fX10_tables o M = some (M.1 (o + 1) 6, M) := by
  unfold fX10_tables
  rw [show ib (6 : Int32) 215 = true from by decide, ck_t, show tn (6 : Int32) = 6 from by decide]
theorem ixM {cf : Cfg} (hc : CfgOk cf) {o p : Nat} {M : Mem} (hK : KM cf o M) (hp : M.2 o 41 = lN p) (hp40 : p < 2 ^ 40) {t a : Nat} (h1 : 1 ≤ t) (h2 : t ≤ cf 3) (ha : a < 64) : fX10_indexOf o (nI t) (nI a) M = some (nI (ixS cf p a t), M) := by
  have hI := hc.1
  have ht := hc.2.2.2.1
  have hs := hc.2.2.2.2.2.2 t h1 h2
  unfold fX10_indexOf
  rw [show ib (0 : Int32) 215 = true from by decide, ck_t, ib_n (show t < 6 by omega) (by omega), ck_t, tn_n (by omega), show tn (0 : Int32) = 0 from by decide, hK.2.2.2.2.2.2 t h1 h2, hK.1, fold_M o M p _ _ hp (by omega) (by omega) (by omega) (by omega), bI_s]
  unfold fX10_rowsOf
  rw [show ib (0 : Int32) 215 = true from by decide, ck_t, bI_s, show tn (0 : Int32) = 0 from by decide, hK.1, low32 (by omega), nI_shr (by omega) (by omega), nI_xor', nI_xor', nI_xor', nI_mask]
  rfl
theorem tgM {cf : Cfg} (hc : CfgOk cf) {o p : Nat} {M : Mem} (hK : KM cf o M) (hp : M.2 o 41 = lN p) (hp40 : p < 2 ^ 40) {t a : Nat} (h1 : 1 ≤ t) (h2 : t ≤ cf 3) (ha : a < 64) : fX10_tagOf o (nI t) (nI a) M = some (nI (tgS cf p a t), M) := by
  have hI := hc.2.1
  have ht := hc.2.2.2.1
  have hs := hc.2.2.2.2.2.2 t h1 h2
  unfold fX10_tagOf
  rw [show ib (1 : Int32) 215 = true from by decide, ck_t, ib_n (show t < 6 by omega) (by omega), ck_t, tn_n (by omega), show tn (1 : Int32) = 1 from by decide, hK.2.2.2.2.2.2 t h1 h2, hK.2.1, fold_M o M p _ _ hp (by omega) (by omega) (by omega) (by omega), bI_s, ck_t, hK.2.2.2.2.2.2 t h1 h2, nI_m1 (show 1 ≤ cf 1 by omega), fold_M o M p _ _ hp (by omega) (by omega) (by omega) (by omega), bI_s, low32 (by omega), nI_2, nI_mask, nI_xor', nI_xor']
  rfl
def PM (cf : Cfg) (p a o n : Nat) (M : Mem) : Prop := ∀ t, 1 ≤ t → t < n → M.1 (o + 23) t = nI (plS cf p a t) ∧ M.1 (o + 24) t = nI (tgS cf p a t)
theorem matchM {cf : Cfg} (hc : CfgOk cf) {g : GS} {p a o : Nat} {M : Mem} (hG : GM cf g p o M) (hP : PM cf p a o (cf 3 + 1) M) : ∀ (n f : Nat), n ≤ cf 3 → n < f → fX10_matching_4 f o (nI n) M = some (nI (prS cf g p a n), M) := by
  have h5 := hc.2.2.2.1
  intro n
  induction n with
  | zero =>
    intro f _ hf
    obtain ⟨f, rfl⟩ : ∃ z, f = z + 1 := ⟨f - 1, by omega⟩
    rw [fX10_matching_4, if_pos (by decide)]; rfl
  | succ n ih =>
    intro f hn hf
    obtain ⟨f, rfl⟩ : ∃ z, f = z + 1 := ⟨f - 1, by omega⟩
    have hpl := pl_lt hc p a (show 1 ≤ n + 1 by omega) hn
    obtain ⟨q1, q2⟩ := hP (n + 1) (by omega) (by omega)
    have e : fX10_matches o (nI (n + 1)) M = some (wkI (mtS cf g p a (n + 1)), M) := by
      unfold fX10_matches mtS
      rw [hG.1.2.2.2.2.1]
      by_cases ho : n + 1 = cf 4
      · rw [if_pos (by rw [ho])]; simp [ho, wkI]
      · have h4 := hc.2.2.2.2.1
        rw [if_neg (fun z => ho ((nI_eq (by omega) (by omega)).mp z)), ib_n (show n + 1 < 6 by omega) (by omega), tn_n (by omega), ck_t, q1, ib_n hpl (by omega), tn_n (by omega), ck_t, ck_t, q2, show M.1 (o + 13) (plS cf p a (n + 1)) = g 0 (plS cf p a (n + 1)) from by rw [← hG.2.1]; rfl]
        by_cases hm : g 0 (plS cf p a (n + 1)) = nI (tgS cf p a (n + 1))
        · rw [if_pos hm]; simp [ho, hm, wkI]
        · rw [if_neg hm]; simp [ho, hm, wkI]
    rw [fX10_matching_4, if_neg (nI_nle (by omega) (by omega)), e, bI_s, prS]
    by_cases hm : mtS cf g p a (n + 1) = true
    · rw [if_neg (by rw [wkI_0, hm]; simp), if_pos hm]
    · rw [if_pos (by rw [wkI_0]; simpa using hm), if_neg hm, pk_m1]
      exact ih f (by omega) (by omega)
theorem syM {cf : Cfg} (hc : CfgOk cf) {g : GS} {p a o : Nat} {M : Mem} (ha : a < 64) (h44 : M.1 o 44 = nI a) (hv : vM o M = g) (hP : PM cf p a o (cf 3 + 1) M) {t : Nat} (ht : t ≤ cf 3) : fX10_saysOf o (nI t) M = some (syS cf g p a t, M) := by
  have h5 := hc.2.2.2.1
  unfold fX10_saysOf syS
  by_cases h : t = 0
  · subst h
    rw [if_pos (show nI 0 = 0 from rfl), h44, show irm (nI a) 16 = nI (a % 16) from pk_rem (a := a) (d := 16) (by omega) (by omega) (by omega), ib_n (show a % 16 < 16 by omega) (by omega), tn_n (by omega), ck_t, if_pos rfl, show M.1 (o + 16) (a % 16) = g 3 (a % 16) from by rw [← hv]; rfl]
    split <;> rfl
  · have hpl := pl_lt hc p a (show 1 ≤ t by omega) ht
    rw [if_neg (nI_ne0 (by omega) (by omega)), ib_n (show t < 6 by omega) (by omega), ck_t, tn_n (by omega), (hP t (by omega) (by omega)).1, ib_n hpl (by omega), ck_t, tn_n (by omega), if_neg h, show M.1 (o + 14) (plS cf p a t) = g 1 (plS cf p a t) from by rw [← hv]; rfl]
    split <;> rfl
def TM (cf : Cfg) (g : GS) (p a o : Nat) (M : Mem) : Prop := M.1 o 44 = nI a ∧ PM cf p a o (cf 3 + 1) M ∧ M.1 o 45 = nI (pvS cf g p a) ∧ M.1 o 46 = nI (atS cf g p a) ∧ M.1 o 47 = syS cf g p a (pvS cf g p a) ∧ M.1 o 48 = syS cf g p a (atS cf g p a) ∧ M.1 o 49 = wkI (wkS cf g p a) ∧ M.1 o 50 = fsS cf g p a
theorem inM (l0 l2 l4 : Int64) (M : Mem) : fX10_in l0 l2 l4 M = some (if l2 ≤ l0 ∧ l0 ≤ l4 then 1 else 0, M) := wiX l0 l2 l4 M
theorem in32 (x y z : Int32) (M : Mem) : fX10_in x.toInt64 y.toInt64 z.toInt64 M = some (if y ≤ x ∧ x ≤ z then 1 else 0, M) := wi32 x y z M
theorem PM.mv {cf : Cfg} {p a o n : Nat} {M M' : Mem} (h : PM cf p a o n M) (e : ∀ c, ¬ c = o → M'.1 c = M.1 c) : PM cf p a o n M' := fun t a b => by rw [e (o + 23) (by omega), e (o + 24) (by omega)]; exact h t a b
theorem tabFin {cf : Cfg} (hc : CfgOk cf) {g : GS} {p a o : Nat} {M : Mem} (ha : a < 64) (hG : GM cf g p o M) (h44 : M.1 o 44 = nI a) (hP : PM cf p a o (cf 3 + 1) M) (h45 : M.1 o 45 = nI (pvS cf g p a)) (q0 : ∃ z, M.1 (o + 23) 0 = z) :
    ∃ M', fX10_askTables_87 o o (nI (atS cf g p a)) M = some M' ∧ QS o M M' ∧ TM cf g p a o M' := by
  have h5 := hc.2.2.2.1
  have hpar := hc.2.2.2.2.2.1
  have hle := pv_le cf g p a
  unfold fX10_askTables_87
  have qa : QS o M (pI M o 46 (nI (atS cf g p a))) := QS.o (by omega)
  have ma : ∀ c, ¬ c = o → (pI M o 46 (nI (atS cf g p a))).1 c = M.1 c := fun c hc => (pI_o c hc).1
  generalize hMa : pI M o 46 (nI (atS cf g p a)) = Ma at qa ma ⊢
  have a44 : Ma.1 o 44 = nI a := by rw [← hMa, pI_1]; simp [h44]
  have a45 : Ma.1 o 45 = nI (pvS cf g p a) := by rw [← hMa, pI_1]; simp [h45]
  have a46 : Ma.1 o 46 = nI (atS cf g p a) := by rw [← hMa, pI_1]; simp
  have gA := hG.mv qa
  have pA : PM cf p a o (cf 3 + 1) Ma := hP.mv ma
  rw [a45, syM hc ha a44 gA.2.1 pA hle, bI_s]
  have qb : QS o Ma (pI Ma o 47 (syS cf g p a (pvS cf g p a))) := QS.o (by omega)
  have mb : ∀ c, ¬ c = o → (pI Ma o 47 (syS cf g p a (pvS cf g p a))).1 c = Ma.1 c := fun c hc => (pI_o c hc).1
  generalize hMb : pI Ma o 47 (syS cf g p a (pvS cf g p a)) = Mb at qb mb ⊢
  have b44 : Mb.1 o 44 = nI a := by rw [← hMb, pI_1]; simp [a44]
  have b45 : Mb.1 o 45 = nI (pvS cf g p a) := by rw [← hMb, pI_1]; simp [a45]
  have b46 : Mb.1 o 46 = nI (atS cf g p a) := by rw [← hMb, pI_1]; simp [a46]
  have b47 : Mb.1 o 47 = syS cf g p a (pvS cf g p a) := by rw [← hMb, pI_1]; simp
  have gB := gA.mv qb
  have pB : PM cf p a o (cf 3 + 1) Mb := pA.mv mb
  rw [b46, syM hc ha b44 gB.2.1 pB (at_le cf g p a), bI_s]
  have qc : QS o Mb (pI Mb o 48 (syS cf g p a (atS cf g p a))) := QS.o (by omega)
  have mc : ∀ c, ¬ c = o → (pI Mb o 48 (syS cf g p a (atS cf g p a))).1 c = Mb.1 c := fun c hc => (pI_o c hc).1
  generalize hMc : pI Mb o 48 (syS cf g p a (atS cf g p a)) = Mc at qc mc ⊢
  have c44 : Mc.1 o 44 = nI a := by rw [← hMc, pI_1]; simp [b44]
  have c45 : Mc.1 o 45 = nI (pvS cf g p a) := by rw [← hMc, pI_1]; simp [b45]
  have c46 : Mc.1 o 46 = nI (atS cf g p a) := by rw [← hMc, pI_1]; simp [b46]
  have c47 : Mc.1 o 47 = syS cf g p a (pvS cf g p a) := by rw [← hMc, pI_1]; simp [b47]
  have c48 : Mc.1 o 48 = syS cf g p a (atS cf g p a) := by rw [← hMc, pI_1]; simp
  have gC := gB.mv qc
  have pC : PM cf p a o (cf 3 + 1) Mc := pB.mv mc
  have q3 : QS o M Mc := qa.tr (qb.tr qc)
  rw [c45, ib_n (show pvS cf g p a < 6 by omega) (by omega), ck_t, tn_n (by omega)]
  have fin : ∀ b : Bool, b = wkS cf g p a → ∃ M', fX10_askTables_163 o o (wkI b) Mc = some M' ∧ QS o M M' ∧ TM cf g p a o M' := by
    intro b hb
    unfold fX10_askTables_163
    rw [wkI_B, ck_t]
    have qd : QS o Mc (pI Mc o 49 (wkI b)) := QS.o (by omega)
    have md : ∀ c, ¬ c = o → (pI Mc o 49 (wkI b)).1 c = Mc.1 c := fun c hc => (pI_o c hc).1
    generalize hMd : pI Mc o 49 (wkI b) = Md at qd md ⊢
    have d44 : Md.1 o 44 = nI a := by rw [← hMd, pI_1]; simp [c44]
    have d45 : Md.1 o 45 = nI (pvS cf g p a) := by rw [← hMd, pI_1]; simp [c45]
    have d46 : Md.1 o 46 = nI (atS cf g p a) := by rw [← hMd, pI_1]; simp [c46]
    have d47 : Md.1 o 47 = syS cf g p a (pvS cf g p a) := by rw [← hMd, pI_1]; simp [c47]
    have d48 : Md.1 o 48 = syS cf g p a (atS cf g p a) := by rw [← hMd, pI_1]; simp [c48]
    have d49 : Md.1 o 49 = wkI b := by rw [← hMd, pI_1]; simp
    have gD := gC.mv qd
    have pD : PM cf p a o (cf 3 + 1) Md := pC.mv md
    have d37 : Md.1 o 37 = g 10 0 := by rw [← gD.2.1]; rfl
    have out : ∀ v, v = fsS cf g p a → QS o M (pI Md o 50 v) ∧ TM cf g p a o (pI Md o 50 v) := by
      intro v hv
      refine ⟨q3.tr (qd.tr (QS.o (by omega))), ?_, pD.mv (fun c hc => (pI_o c hc).1), ?_, ?_, ?_, ?_, ?_, ?_⟩
      · rw [pI_1]; simp [d44]
      · rw [pI_1]; simp [d45]
      · rw [pI_1]; simp [d46]
      · rw [pI_1]; simp [d47]
      · rw [pI_1]; simp [d48]
      · rw [pI_1]; simp [d49, hb]
      · rw [pI_1]; simp [hv]
    rw [d49, d47]
    cases b with
    | false =>
      rw [if_pos (show wkI false = 0 from rfl)]
      exact ⟨_, rfl, out _ (by unfold fsS; rw [← hb]; rfl)⟩
    | true =>
      rw [if_neg (by decide), show (4 : Int32) = nI 4 from rfl, hasM gD.1.2.2.2.2.2.1 hpar, bI_s, d37, d47, d48]
      by_cases h4 : hs cf 4 = true
      · rw [if_neg (by rw [wkI_0, h4]; simp)]
        by_cases h7 : (7 : Int32) < g 10 0
        · rw [if_neg (by rw [i32_le_nlt]; exact fun h => h h7)]
          exact ⟨_, rfl, out _ (by unfold fsS; rw [if_pos (by rw [← hb, h4]; simp [h7])])⟩
        · rw [if_pos (by rw [i32_le_nlt]; exact h7)]
          exact ⟨_, rfl, out _ (by unfold fsS; rw [if_neg (by simp [h7])])⟩
      · rw [if_pos (by rw [wkI_0]; simpa using h4)]
        exact ⟨_, rfl, out _ (by unfold fsS; rw [if_neg (by simp [h4])])⟩
  by_cases h0 : pvS cf g p a = 0
  · rw [if_pos (by rw [h0]; decide)]
    exact fin false (by simp [wkS, h0])
  · have hpl := pl_lt hc p a (show 1 ≤ pvS cf g p a by omega) hle
    rw [if_neg (nI_nle (by omega) (by omega)), (pC (pvS cf g p a) (by omega) (by omega)).1, ib_n hpl (by omega), ck_t, tn_n (by omega), show Mc.1 (o + 14) (plS cf p a (pvS cf g p a)) = g 1 (plS cf p a (pvS cf g p a)) from by rw [← gC.2.1]; rfl, L64_0, L64_m1, in32, bI_s, ck_t]
    by_cases hk : -1 ≤ g 1 (plS cf p a (pvS cf g p a)) ∧ g 1 (plS cf p a (pvS cf g p a)) ≤ 0
    · rw [if_pos hk, if_neg (by decide), show Mc.1 (o + 15) (plS cf p a (pvS cf g p a)) = g 2 (plS cf p a (pvS cf g p a)) from by rw [← gC.2.1]; rfl]
      by_cases hu : g 2 (plS cf p a (pvS cf g p a)) = 0
      · rw [if_pos hu]
        exact fin true (by simp [wkS, hu, hk.1, hk.2]; omega)
      · rw [if_neg hu]
        exact fin false (by simp [wkS, hu])
    · rw [if_neg hk, if_pos rfl]
      refine fin false ?_
      simp only [wkS]
      by_cases hk1 : -1 ≤ g 1 (plS cf p a (pvS cf g p a))
      · have hk2 : ¬ g 1 (plS cf p a (pvS cf g p a)) ≤ 0 := fun h => hk ⟨hk1, h⟩
        simp [hk2]
      · simp [hk1]
theorem tabM {cf : Cfg} (hc : CfgOk cf) {g : GS} {p a o : Nat} (ha : a < 64) : ∀ (k t f : Nat) (M : Mem), t + k = cf 3 + 1 → 1 ≤ t → k < f → GM cf g p o M → M.1 o 44 = nI a → PM cf p a o t M → ∃ M', fX10_askTables_2 f o (nI t) M = some M' ∧ QS o M M' ∧ TM cf g p a o M' := by
  have h5 := hc.2.2.2.1
  intro k
  induction k with
  | zero =>
    intro t f M ht h1 hf hG h44 hP
    obtain ⟨f, rfl⟩ : ∃ z, f = z + 1 := ⟨f - 1, by omega⟩
    have : t = cf 3 + 1 := by omega
    subst this
    rw [fX10_askTables_2, tablesM, bI_s, hG.1.2.2.2.1, if_pos (nI_lt (by omega) (by omega)), tablesM, bI_s, hG.1.2.2.2.1, nI_1]
    unfold fX10_matching
    rw [nI_m1 (by omega), show cf 3 + 1 - 1 = cf 3 by omega, matchM hc hG hP (cf 3) LF (by omega) (by unfold LF; omega), bI_s]
    have q1 : QS o M (pI M o 45 (nI (prS cf g p a (cf 3)))) := QS.o (by omega)
    have m1 : ∀ c, ¬ c = o → (pI M o 45 (nI (prS cf g p a (cf 3)))).1 c = M.1 c := fun c hc => (pI_o c hc).1
    have e45 : (pI M o 45 (nI (prS cf g p a (cf 3)))).1 o 45 = nI (prS cf g p a (cf 3)) := by rw [pI_1]; simp
    have e44 : (pI M o 45 (nI (prS cf g p a (cf 3)))).1 o 44 = nI a := by rw [pI_1]; simp [h44]
    generalize pI M o 45 (nI (prS cf g p a (cf 3))) = M1 at *
    have hG1 := hG.mv q1
    have hP1 : PM cf p a o (cf 3 + 1) M1 := hP.mv m1
    have hpl := pr_le cf g p a (cf 3)
    rw [e45]
    have hat : atS cf g p a = prS cf g p a (prS cf g p a (cf 3) - 1) := al_pr cf g p a (cf 3)
    by_cases h0 : prS cf g p a (cf 3) = 0
    · rw [if_pos (by rw [h0]; rfl)]
      have ez : atS cf g p a = 0 := by rw [hat, h0]; rfl
      obtain ⟨M', e, q, T⟩ := tabFin hc ha hG1 e44 hP1 e45 ⟨_, rfl⟩
      rw [ez] at e
      exact ⟨M', e, q1.tr q, T⟩
    · rw [if_neg (nI_ne0 (by omega) (by omega)), nI_m1 (by omega), matchM hc hG1 hP1 (prS cf g p a (cf 3) - 1) LF (by omega) (by unfold LF; omega), bI_s, ← hat]
      obtain ⟨M', e, q, T⟩ := tabFin hc ha hG1 e44 hP1 e45 ⟨_, rfl⟩
      exact ⟨M', e, q1.tr q, T⟩
  | succ k ih =>
    intro t f M ht h1 hf hG h44 hP
    obtain ⟨f, rfl⟩ : ∃ z, f = z + 1 := ⟨f - 1, by omega⟩
    rw [fX10_askTables_2, tablesM, bI_s, hG.1.2.2.2.1, if_neg (nI_nlt (by omega) (by omega)), h44, ixM hc hG.1 hG.2.2.1 hG.2.2.2 h1 (by omega) ha, bI_s, ib_n (show t < 6 by omega) (by omega), ck_t, tn_n (by omega), pl_eq _ _ h1]
    have q1 : QS o M (pI M (o + 23) t (nI (plS cf p a t))) := QS.c (by omega)
    have r1 : ∀ u, (pI M (o + 23) t (nI (plS cf p a t))).1 (o + 23) u = if u = t then nI (plS cf p a t) else M.1 (o + 23) u := fun u => by rw [pI_1, if_pos rfl]
    have r2 : (pI M (o + 23) t (nI (plS cf p a t))).1 (o + 24) = M.1 (o + 24) := (pI_o (o + 24) (by omega)).1
    have r3 : (pI M (o + 23) t (nI (plS cf p a t))).1 o 44 = nI a := by rw [(pI_o o (by omega)).1]; exact h44
    generalize pI M (o + 23) t (nI (plS cf p a t)) = M1 at *
    have hG1 := hG.mv q1
    rw [r3, tgM hc hG1.1 hG1.2.2.1 hG1.2.2.2 h1 (by omega) ha, bI_s, ck_t, nI_1]
    have q2 : QS o M1 (pI M1 (o + 24) t (nI (tgS cf p a t))) := QS.c (by omega)
    obtain ⟨M', e, q, T⟩ := ih (t + 1) f (pI M1 (o + 24) t (nI (tgS cf p a t))) (by omega) (by omega) (by omega) (hG1.mv q2) (by rw [(pI_o o (by omega)).1]; exact r3) (fun u u1 u2 => by
      rw [(pI_o (o + 23) (by omega)).1, r1, pI_1, if_pos rfl, r2]
      by_cases hu : u = t
      · subst hu; simp
      · rw [if_neg hu, if_neg hu]; exact hP u u1 (by omega))
    exact ⟨M', e, q1.tr (q2.tr q), T⟩
