/-! The class's Guesser: asking. -/
def vX (o : Nat) (M : Mem) : GS := fun i => match i with
  | 0 => M.1 (o + 3)
  | 1 => M.1 (o + 4)
  | 2 => M.1 (o + 5)
  | 3 => M.1 (o + 6)
  | 4 => M.1 (o + 9)
  | 5 => M.1 (o + 10)
  | 6 => M.1 (o + 11)
  | 7 => M.1 (o + 12)
  | 8 => M.1 (o + 13)
  | 9 => M.1 (o + 15)
  | 10 => fun _ => M.1 (o + 1) 10
  | 11 => fun _ => M.1 (o + 1) 11
  | 12 => fun _ => M.1 (o + 1) 12
  | 13 => fun _ => M.1 (o + 14) 1
  | _ => fun _ => 0
def GX (cf : Cfg) (g : GS) (p o : Nat) (M : Mem) : Prop := KT cf (o + 1) M ∧ M.1 o 3 = nI (cf 5) ∧ vX o M = g ∧ ∃ P, P < 2 ^ 64 ∧ M.2 o 4 = lN P ∧ P % 2 ^ 40 = p
def FrX (o : Nat) (M M' : Mem) : Prop := ∀ c, (c < o ∨ o + 17 ≤ c) → M'.1 c = M.1 c ∧ M'.2 c = M.2 c
theorem FrX.tr {o : Nat} {A B C : Mem} (h : FrX o A B) (k : FrX o B C) : FrX o A C := fun c hc => ⟨(k c hc).1.trans (h c hc).1, (k c hc).2.trans (h c hc).2⟩
theorem FrX.rf {o : Nat} {A : Mem} : FrX o A A := fun _ _ => ⟨rfl, rfl⟩
theorem FrX.pI {o : Nat} {A : Mem} {c k : Nat} {v : Int32} (h1 : o ≤ c) (h2 : c < o + 17) : FrX o A (pI A c k v) := fun b hb => pI_o b (by omega)
theorem FrX.pL {o : Nat} {A : Mem} {c k : Nat} {v : Int64} (h1 : o ≤ c) (h2 : c < o + 17) : FrX o A (pL A c k v) := fun b hb => pL_o b (by omega)
def VSame (o : Nat) (M M' : Mem) : Prop := (∀ c, (o + 2 ≤ c ∧ c ≤ o + 6) ∨ (o + 9 ≤ c ∧ c ≤ o + 13) ∨ c = o + 15 → M'.1 c = M.1 c) ∧ (∀ k, k < 14 → M'.1 (o + 1) k = M.1 (o + 1) k) ∧ (∀ k, k < 3 → M'.1 (o + 14) k = M.1 (o + 14) k) ∧ M'.1 o 3 = M.1 o 3 ∧ M'.2 o 4 = M.2 o 4
theorem VSame.v {o : Nat} {M M' : Mem} (h : VSame o M M') : vX o M' = vX o M := by
  funext i
  unfold vX
  obtain ⟨h1, h2, h3, -, -⟩ := h
  split
  · exact h1 _ (by omega)
  · exact h1 _ (by omega)
  · exact h1 _ (by omega)
  · exact h1 _ (by omega)
  · exact h1 _ (by omega)
  · exact h1 _ (by omega)
  · exact h1 _ (by omega)
  · exact h1 _ (by omega)
  · exact h1 _ (by omega)
  · exact h1 _ (by omega)
  · funext _; exact h2 _ (by omega)
  · funext _; exact h2 _ (by omega)
  · funext _; exact h2 _ (by omega)
  · funext _; exact h3 _ (by omega)
  · rfl
theorem GX.mv {cf : Cfg} {g : GS} {p o : Nat} {M M' : Mem} (h : GX cf g p o M) (hs : VSame o M M') : GX cf g p o M' :=
  ⟨h.1.mv (fun k hk => hs.2.1 k (by omega)) (fun t => by rw [hs.1 (o + 1 + 1) (by omega)]), by rw [hs.2.2.2.1]; exact h.2.1, by rw [hs.v]; exact h.2.2.1, by rw [hs.2.2.2.2]; exact h.2.2.2⟩
theorem VSame.tr {o : Nat} {A B C : Mem} (h : VSame o A B) (k : VSame o B C) : VSame o A C :=
  ⟨fun c hc => (k.1 c hc).trans (h.1 c hc), fun c hc => (k.2.1 c hc).trans (h.2.1 c hc), fun c hc => (k.2.2.1 c hc).trans (h.2.2.1 c hc), k.2.2.2.1.trans h.2.2.2.1, k.2.2.2.2.trans h.2.2.2.2⟩
theorem VSame.pIo {o : Nat} {A : Mem} {k : Nat} {v : Int32} (hk : ¬ k = 3) : VSame o A (pI A o k v) :=
  ⟨fun c hc => (pI_o c (by omega)).1, fun j _ => by rw [(pI_o (o + 1) (by omega)).1], fun j _ => by rw [(pI_o (o + 14) (by omega)).1], by rw [pI_1, if_pos rfl, if_neg (fun e => hk e.symm)], rfl⟩
theorem LKX.vs {cf : Cfg} {g : GS} {p a o : Nat} {M M' : Mem} (h : LKX cf g p a (o + 1) M M') : VSame o M M' :=
  ⟨fun c hc => h.1 c (by omega) (by omega), fun k hk => h.2.2.1 k hk, fun k _ => by rw [h.1 (o + 14) (by omega) (by omega)], by rw [h.1 o (by omega) (by omega)], by rw [h.2.1]⟩
theorem WGX.vs {cf : Cfg} {g : GS} {p a o : Nat} {M M' : Mem} (h : WGX cf g p a (o + 14) M M') : VSame o M M' :=
  ⟨fun c hc => h.1 c (by omega) (by omega), fun k _ => by rw [h.1 (o + 1) (by omega) (by omega)], fun k hk => h.2.2.1 k hk, by rw [h.1 o (by omega) (by omega)], by rw [h.2.1]⟩
theorem LKX.fr {cf : Cfg} {g : GS} {p a o : Nat} {M M' : Mem} (h : LKX cf g p a (o + 1) M M') : FrX o M M' := fun c hc => ⟨h.1 c (by omega) (by omega), by rw [h.2.1]⟩
theorem WGX.fr {cf : Cfg} {g : GS} {p a o : Nat} {M M' : Mem} (h : WGX cf g p a (o + 14) M M') : FrX o M M' := fun c hc => ⟨h.1 c (by omega) (by omega), by rw [h.2.1]⟩
theorem hasX {cf : Cfg} {o b : Nat} {M : Mem} (h : M.1 o 3 = nI (cf 5)) (hc : cf 5 < 8) : fX1_has o (nI b) M = some (wkI (hs cf b), M) := by
  unfold fX1_has
  have hlt : cf 5 &&& b < 2 ^ 31 := Nat.lt_of_le_of_lt Nat.and_le_left (by omega)
  rw [h, nI_and']
  by_cases e : cf 5 &&& b = 0
  · rw [e, if_pos (show nI 0 = 0 from rfl)]; simp [hs, e, wkI]
  · rw [if_neg (nI_ne0 (by omega) hlt)]; simp [hs, e, wkI]
theorem lsX {r a : Nat} {g : GS} {M : Mem} (ha : a < 64) (h4 : M.1 (r + 1) = g 4) (h5 : M.1 (r + 2) = g 5) (h6 : M.1 (r + 3) = g 6) (h7 : M.1 (r + 4) = g 7) :
    fX2_say r (nI a) M = some (if g 4 (a % 8) = nI a then (if 3 ≤ g 7 (a % 8) then (if g 5 (a % 8) ≤ g 6 (a % 8) then 0 else 1) else -1) else -1, M) := by
  unfold fX2_say
  rw [show irm (nI a) 8 = nI (a % 8) from pk_rem (a := a) (d := 8) (by omega) (by omega) (by omega), ib_n (show a % 8 < 8 by omega) (by omega), tn_n (by omega)]
  simp only [ck_t, h4, h5, h6, h7]
  repeat' split
  all_goals rfl
theorem sdX {r : Nat} {M : Mem} : fX0_side r M = some (if M.1 r 4 ≤ 0 then 0 else 1, M) := by
  unfold fX0_side
  split <;> rfl
theorem csX {r : Nat} {M : Mem} : fX0_say r M = some (if (if M.1 r 4 ≤ 0 then (0 : Int32) else 1) = M.1 r 3 then -1 else if ab (M.1 r 4) < M.1 r 1 then -1 else (if M.1 r 4 ≤ 0 then 0 else 1), M) := by
  unfold fX0_say
  simp only [sdX, bI_s]
  generalize (if M.1 r 4 ≤ 0 then (0 : Int32) else 1) = z
  unfold ab
  generalize (if 0 ≤ M.1 r 4 then M.1 r 4 else 0 - M.1 r 4) = y
  split
  · rfl
  · split <;> rfl
def AX (cf : Cfg) (g : GS) (p a o : Nat) (M : Mem) : Prop := M.1 o 6 = nI a ∧ M.1 o 7 = anS cf g p a ∧ M.1 o 8 = whS cf g p a ∧ PLX cf p a (o + 1) M ∧ M.1 (o + 1) 15 = nI (pvS cf g p a) ∧ M.1 (o + 1) 16 = nI (atS cf g p a) ∧ M.1 (o + 1) 17 = wkI (wkS cf g p a) ∧ M.1 (o + 1) 18 = fsS cf g p a ∧ M.1 (o + 16) 0 = nI (c0S cf g p a) ∧ M.1 (o + 16) 1 = nI (c1S p a) ∧ M.1 (o + 16) 2 = nI (c2S p a) ∧ M.1 (o + 14) 3 = fsS cf g p a ∧ M.1 (o + 14) 4 = toS cf g p a
theorem ask_fin {o : Nat} {M : Mem} {l cs fs : Int32} {b2 : Bool} (hh : ∀ MM : Mem, MM.1 o 3 = M.1 o 3 → fX1_has o 2 MM = some (wkI b2, MM)) (hcs : ∀ MM : Mem, (∀ k, MM.1 (o + 14) k = M.1 (o + 14) k) → b2 = true → fX0_say (o + 14) MM = some (cs, MM)) (hb : b2 = false → cs = -1) (hfs : M.1 (o + 1) 18 = fs) :
    ∃ M', fX1_ask_62 o o l M = some (if l = -1 then (if cs = -1 then fs else cs) else l, M') ∧ (∀ c, ¬ c = o → M'.1 c = M.1 c) ∧ M'.2 = M.2 ∧ (∀ k, ¬ k = 7 → ¬ k = 8 → M'.1 o k = M.1 o k) ∧ M'.1 o 7 = (if l = -1 then (if cs = -1 then fs else cs) else l) ∧ M'.1 o 8 = (if l = -1 then (if cs = -1 then 0 else 2) else 1) := by
  have k106 : ∀ (MM : Mem) (x w : Int32), (∀ c, ¬ c = o → MM.1 c = M.1 c) → MM.2 = M.2 → (∀ k, ¬ k = 7 → ¬ k = 8 → MM.1 o k = M.1 o k) → MM.1 o 7 = x → MM.1 o 8 = w → ∃ M', fX1_ask_106 o MM = some (if x = -1 then fs else x, M') ∧ (∀ c, ¬ c = o → M'.1 c = M.1 c) ∧ M'.2 = M.2 ∧ (∀ k, ¬ k = 7 → ¬ k = 8 → M'.1 o k = M.1 o k) ∧ M'.1 o 7 = (if x = -1 then fs else x) ∧ M'.1 o 8 = (if x = -1 then 0 else w) := by
    intro MM x w m1 m2 m3 m7 m8
    unfold fX1_ask_106
    rw [m7]
    by_cases hx : x = -1
    · rw [if_pos hx, if_pos hx, if_pos hx, m1 (o + 1) (by omega), hfs]
      refine ⟨pI (pI MM o 7 fs) o 8 0, by rw [pI_1, pI_1]; simp, fun c hc => by rw [(pI_o c hc).1, (pI_o c hc).1, m1 c hc], m2, fun k k1 k2 => by rw [pI_1, pI_1]; simp [k1, k2]; exact m3 k k1 k2, by rw [pI_1, pI_1]; simp, by rw [pI_1]; simp⟩
    · rw [if_neg hx, if_neg hx, if_neg hx]
      exact ⟨MM, rfl, m1, m2, m3, m7, m8⟩
  unfold fX1_ask_62
  rw [show (pI (pI M o 7 l) o 8 1).1 o 7 = l from by rw [pI_1, pI_1]; simp]
  by_cases hl : l = -1
  · rw [if_pos hl, if_pos hl, if_pos hl, hh _ (by rw [pI_1, pI_1]; simp), bI_s]
    have k98 : ∀ x : Int32, ∃ M', fX1_ask_98 o o x (pI (pI M o 7 l) o 8 1) = some (if x = -1 then fs else x, M') ∧ (∀ c, ¬ c = o → M'.1 c = M.1 c) ∧ M'.2 = M.2 ∧ (∀ k, ¬ k = 7 → ¬ k = 8 → M'.1 o k = M.1 o k) ∧ M'.1 o 7 = (if x = -1 then fs else x) ∧ M'.1 o 8 = (if x = -1 then 0 else 2) := by
      intro x
      unfold fX1_ask_98
      exact k106 _ x 2 (fun c hc => by rw [(pI_o c hc).1, (pI_o c hc).1, (pI_o c hc).1, (pI_o c hc).1]) rfl (fun k k1 k2 => by rw [pI_1, pI_1, pI_1, pI_1]; simp [k1, k2]) (by rw [pI_1, pI_1]; simp) (by rw [pI_1]; simp)
    cases b2 with
    | false =>
      rw [if_pos (show wkI false = 0 from rfl), hb rfl]
      exact k98 (-1)
    | true =>
      rw [if_neg (by decide), hcs _ (fun k => by rw [(pI_o (o + 14) (by omega)).1, (pI_o (o + 14) (by omega)).1]) rfl, bI_s]
      exact k98 cs
  · rw [if_neg hl, if_neg hl, if_neg hl]
    have h := k106 (pI (pI M o 7 l) o 8 1) l 1 (fun c hc => by rw [(pI_o c hc).1, (pI_o c hc).1]) rfl (fun k k1 k2 => by rw [pI_1, pI_1]; simp [k1, k2]) (by rw [pI_1, pI_1]; simp) (by rw [pI_1]; simp)
    rw [if_neg hl, if_neg hl] at h
    exact h
theorem askX {cf : Cfg} (hc : CfgOk cf) {g : GS} {p a o : Nat} {M : Mem} (ha : a < 64) (hG : GX cf g p o M) :
    ∃ M1, fX1_ask o (nI a) M = some (anS cf g p a, M1) ∧ GX cf g p o M1 ∧ AX cf g p a o M1 ∧ FrX o M M1 ∧ M1.1 o 5 = M.1 o 5 := by
  have hpar := hc.2.2.2.2.2.1
  have v0 : VSame o M (pI M o 6 (nI a)) := VSame.pIo (by omega)
  have hGa := hG.mv v0
  generalize hMa : pI M o 6 (nI a) = Ma at v0 hGa
  have a6 : Ma.1 o 6 = nI a := by rw [← hMa, pI_1]; simp
  have a5 : Ma.1 o 5 = M.1 o 5 := by rw [← hMa, pI_1]; simp
  have fa : FrX o M Ma := by rw [← hMa]; exact FrX.pI (by omega) (by omega)
  obtain ⟨P, hP, eP, epP⟩ := hGa.2.2.2
  have rows := hGa.2.2.1
  unfold fX1_ask
  rw [hMa, show (4 : Int32) = nI 4 from rfl, hasX hGa.2.1 hpar, bI_s, eP]
  obtain ⟨M3, e3, L3⟩ := lookX (q := o + 1) hc ha hP hGa.1 (g := g) (by rw [← rows]; rfl) (by rw [← rows]; rfl) (by rw [← rows]; rfl) (by rw [← rows]; rfl) (by rw [← rows]; rfl)
  rw [e3, bV_s, L3.2.2.2.2.2.2.2, show M3.2 o 4 = lN P from by rw [L3.2.1]; exact eP]
  have hG3 := hGa.mv L3.vs
  obtain ⟨M4, e4, W4⟩ := weighX (cf := cf) (g := g) (r := o + 14) ha hP (show M3.1 (o + 14 + 1) = g 9 from by rw [← hG3.2.2.1]; rfl)
  rw [e4, bV_s]
  rw [epP] at L3 W4
  have hG4 := hG3.mv W4.vs
  have rows4 := hG4.2.2.1
  rw [show (1 : Int32) = nI 1 from rfl, hasX hG4.2.1 hpar, bI_s]
  have sd4 : (if M4.1 (o + 14) 4 ≤ 0 then (0 : Int32) else 1) = sdS cf g p a := by rw [W4.2.2.2.2.2.2.2]; rfl
  have fin := fun l => ask_fin (o := o) (M := M4) (l := l) (cs := csS cf g p a) (fs := fsS cf g p a) (b2 := hs cf 2) (fun MM e => hasX (b := 2) (by rw [e]; exact hG4.2.1) hpar) (fun MM e hb => by
      rw [csX]
      rw [e 4, e 3, e 1, sd4, W4.2.2.2.2.2.2.2, W4.2.2.2.2.2.2.1, show M4.1 (o + 14) 1 = g 13 0 from by rw [← rows4]; rfl]
      unfold csS; rw [if_pos hb]) (fun hb => by unfold csS; rw [hb]; rfl) (by rw [W4.1 (o + 1) (by omega) (by omega)]; exact L3.2.2.2.2.2.2.2)
  have done : ∀ l, l = lsS cf g a → ∃ M1, fX1_ask_62 o o l M4 = some (anS cf g p a, M1) ∧ GX cf g p o M1 ∧ AX cf g p a o M1 ∧ FrX o M M1 ∧ M1.1 o 5 = M.1 o 5 := by
    intro l hl
    subst hl
    obtain ⟨M1, f1, f2, f3, f4, f5, f6⟩ := fin (lsS cf g a)
    have vs : VSame o M4 M1 := ⟨fun c _ => f2 c (by omega), fun k _ => by rw [f2 (o + 1) (by omega)], fun k _ => by rw [f2 (o + 14) (by omega)], f4 3 (by omega) (by omega), by rw [f3]⟩
    have w1 : ∀ k, M1.1 (o + 1) k = M3.1 (o + 1) k := fun k => by rw [f2 (o + 1) (by omega), W4.1 (o + 1) (by omega) (by omega)]
    refine ⟨M1, f1, hG4.mv vs, ⟨?_, f5, f6, ?_, ?_, ?_, ?_, ?_, ?_, ?_, ?_, ?_, ?_⟩, ?_, ?_⟩
    · rw [f4 6 (by omega) (by omega), W4.1 o (by omega) (by omega), L3.1 o (by omega) (by omega)]; exact a6
    · exact L3.2.2.2.1.mv (w1 14) (fun t => by rw [f2 (o + 1 + 6) (by omega), W4.1 (o + 1 + 6) (by omega) (by omega)])
    · rw [w1]; exact L3.2.2.2.2.1
    · rw [w1]; exact L3.2.2.2.2.2.1
    · rw [w1]; exact L3.2.2.2.2.2.2.1
    · rw [w1]; exact L3.2.2.2.2.2.2.2
    · rw [f2 (o + 16) (by omega)]; exact W4.2.2.2.1
    · rw [f2 (o + 16) (by omega)]; exact W4.2.2.2.2.1
    · rw [f2 (o + 16) (by omega)]; exact W4.2.2.2.2.2.1
    · rw [f2 (o + 14) (by omega)]; exact W4.2.2.2.2.2.2.1
    · rw [f2 (o + 14) (by omega)]; exact W4.2.2.2.2.2.2.2
    · exact fa.tr (L3.fr.tr (W4.fr.tr (fun c hc => ⟨f2 c (by omega), by rw [f3]⟩)))
    · rw [f4 5 (by omega) (by omega), W4.1 o (by omega) (by omega), L3.1 o (by omega) (by omega)]; exact a5
  by_cases h1 : hs cf 1 = true
  · rw [if_neg (by rw [wkI_0, h1]; simp), lsX (r := o + 8) (g := g) ha (by rw [← rows4]; rfl) (by rw [← rows4]; rfl) (by rw [← rows4]; rfl) (by rw [← rows4]; rfl), bI_s]
    exact done _ (by unfold lsS; rw [if_pos h1])
  · rw [if_pos (by rw [wkI_0]; simpa using h1)]
    exact done (-1) (by unfold lsS; rw [if_neg h1])
