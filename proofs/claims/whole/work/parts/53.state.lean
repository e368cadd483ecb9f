/-! The state that both sides hold, and what is kept of it on each side. -/
abbrev St : Type := (Nat → Nat → Int32) × (Nat → Int64)
def SOk (S : St) : Prop := (∀ i, i < 4 → WOk (S.1 i)) ∧ (∃ n, n ≤ 800 ∧ S.1 6 0 = nI n) ∧ (∀ i, i < 4 → (S.1 7 i = -1 ∨ ∃ n, n ≤ 60 ∧ S.1 7 i = nI n) ∧ (S.1 8 i = 0 ∨ S.1 8 i = 1))
def Bt (x : Int32) : Prop := -128 ≤ x.toInt ∧ x.toInt ≤ 127
def JC (S : St) (M : Mem) : Prop := (SOk S ∧ Tw (S.1 0) 9 M ∧ CW (S.1 0) M) ∧ (Rx0 M ∧ GZ (vX 41 M) ∧ GZ (vX 58 M)) ∧ (∀ i, i < 3 → Tw (S.1 (1 + i)) (16 + 6 * i) M ∧ M.1 34 i = S.1 4 i) ∧ (∀ i, i < 800 → M.1 2 i = S.1 5 i ∧ Bt (S.1 5 i)) ∧ (M.1 1 1 = S.1 6 0 ∧ M.1 1 2 = S.1 6 1 ∧ M.1 1 3 = S.1 6 2) ∧ (∀ i, i < 4 → M.1 77 i = S.1 8 i ∧ M.1 78 i = S.1 7 i) ∧ ∀ j, j < 240 → M.2 79 j = S.2 j
def JR (S : St) (N : Mem) : Prop := (SOk S ∧ N.1 81 = S.1 0 ∧ GZ (vM 80 N)) ∧ (∀ i, i < 3 → (∀ k, k < 215 → N.1 82 (215 * i + k) = S.1 (1 + i) k) ∧ N.1 83 i = S.1 4 i) ∧ (∀ i, i < 800 → N.1 84 i = S.1 5 i) ∧ (N.1 80 5 = S.1 6 0 ∧ N.1 80 12 = S.1 6 1 ∧ N.1 80 13 = S.1 6 2) ∧ (∀ i, i < 4 → N.1 115 i = S.1 8 i ∧ N.1 114 i = S.1 7 i) ∧ ∀ j, j < 240 → N.2 116 j = S.2 j
def FrCl (M M' : Mem) : Prop := ∀ c, 80 ≤ c → M'.1 c = M.1 c ∧ M'.2 c = M.2 c
def FrRf (M M' : Mem) : Prop := ∀ c, c < 80 → M'.1 c = M.1 c ∧ M'.2 c = M.2 c
theorem FrCl.rf {M : Mem} : FrCl M M := fun _ _ => ⟨rfl, rfl⟩
theorem FrRf.rf {M : Mem} : FrRf M M := fun _ _ => ⟨rfl, rfl⟩
theorem FrCl.tr {A B C : Mem} (h : FrCl A B) (k : FrCl B C) : FrCl A C := fun c hc => ⟨(k c hc).1.trans (h c hc).1, (k c hc).2.trans (h c hc).2⟩
theorem FrRf.tr {A B C : Mem} (h : FrRf A B) (k : FrRf B C) : FrRf A C := fun c hc => ⟨(k c hc).1.trans (h c hc).1, (k c hc).2.trans (h c hc).2⟩
theorem KT.fr {cf : Cfg} {q : Nat} {M M' : Mem} (h : KT cf q M) (h0 : M'.1 q = M.1 q) (h1 : M'.1 (q + 1) = M.1 (q + 1)) : KT cf q M' := by
  unfold KT at *
  rw [h0, h1]; exact h
theorem vX_fr {o : Nat} {M M' : Mem} (h : ∀ c, o ≤ c → c < o + 17 → M'.1 c = M.1 c) : vX o M' = vX o M := by
  funext i
  unfold vX
  split <;> first | rfl | exact h _ (by omega) (by omega) | (rw [h _ (by omega) (by omega)])
theorem GX.fr {cf : Cfg} {g : GS} {p o : Nat} {M M' : Mem} (h : GX cf g p o M) (f : ∀ c, o ≤ c → c < o + 17 → M'.1 c = M.1 c) (f2 : M'.2 o = M.2 o) : GX cf g p o M' :=
  ⟨h.1.fr (f _ (by omega) (by omega)) (f _ (by omega) (by omega)), by rw [f _ (by omega) (by omega)]; exact h.2.1, by rw [vX_fr f]; exact h.2.2.1, by rw [f2]; exact h.2.2.2⟩
theorem CW.fr {W : Wd} {M M' : Mem} (h : CW W M) (f : ∀ c, 35 ≤ c → c ≤ 57 → ¬ c = 38 → M'.1 c = M.1 c ∧ M'.2 c = M.2 c) : CW W M' := by
  obtain ⟨a, b, c, d⟩ := h
  have f35 := (f 35 (by omega) (by omega) (by omega)).1
  have f36 := (f 36 (by omega) (by omega) (by omega)).1
  have f37 := (f 37 (by omega) (by omega) (by omega)).1
  have f39 := (f 39 (by omega) (by omega) (by omega)).1
  have f40 := (f 40 (by omega) (by omega) (by omega)).1
  have f41 := (f 41 (by omega) (by omega) (by omega)).1
  refine ⟨fun hp => ?_, ?_, by rw [f39]; exact c, ?_⟩
  · obtain ⟨r, o1, m, m1, m2, m3⟩ := a hp
    refine ⟨?_, ⟨o1.1.fr (f 42 (by omega) (by omega) (by omega)).1 (f 43 (by omega) (by omega) (by omega)).1, by rw [f41]; exact o1.2⟩, m, m1, by rw [f41]; exact m2, fun hm => (m3 hm).fr (fun c x y => (f c (by omega) (by omega) (by omega)).1) (f 41 (by omega) (by omega) (by omega)).2⟩
    unfold RunX RxS Reg at *
    rw [f35, f36, f37]; exact r
  · unfold TrX at *
    rw [f39, f40]; exact b
  · unfold FcX at *
    rw [f40]; exact d
-- the class's state is untouched by its scratch: strayed registers, rival, rounds, draft
theorem JC.sc {S : St} {M M' : Mem} (h : JC S M) (f : ∀ c, c < 80 → ¬ (3 ≤ c ∧ c ≤ 4) → ¬ c = 38 → ¬ (58 ≤ c ∧ c ≤ 75) → M'.1 c = M.1 c ∧ M'.2 c = M.2 c) (hz : GZ (vX 58 M')) : JC S M' := by
  obtain ⟨⟨a1, a2, a3⟩, ⟨b1, b2, -⟩, c1, d1, e1, g1, i1⟩ := h
  have w : ∀ c, c < 80 → ¬ (3 ≤ c ∧ c ≤ 4) → ¬ c = 38 → ¬ (58 ≤ c ∧ c ≤ 75) → M'.1 c = M.1 c := fun c x y z t => (f c x y z t).1
  refine ⟨⟨a1, a2.fr (fun c x y => w c (by omega) (by omega) (by omega) (by omega)), a3.fr (fun c x y z => f c (by omega) (by omega) z (by omega))⟩, ⟨?_, ?_, hz⟩, fun i hi => ⟨(c1 i hi).1.fr (fun c x y => w c (by omega) (by omega) (by omega) (by omega)), ?_⟩, ?_, ?_, ?_, ?_⟩
  · unfold Rx0 at *
    rw [w 36 (by omega) (by omega) (by omega) (by omega), w 5 (by omega) (by omega) (by omega) (by omega), w 37 (by omega) (by omega) (by omega) (by omega)]; exact b1
  · rw [vX_fr (fun c x y => w c (by omega) (by omega) (by omega) (by omega))]; exact b2
  · rw [w 34 (by omega) (by omega) (by omega) (by omega)]; exact (c1 i hi).2
  · rw [w 2 (by omega) (by omega) (by omega) (by omega)]; exact d1
  · rw [w 1 (by omega) (by omega) (by omega) (by omega)]; exact e1
  · rw [w 77 (by omega) (by omega) (by omega) (by omega), w 78 (by omega) (by omega) (by omega) (by omega)]; exact g1
  · rw [(f 79 (by omega) (by omega) (by omega) (by omega)).2]; exact i1
-- ... and by its own guesser's moves, and by its run and trail, if what is kept of them stands again
theorem JC.ow {S : St} {M M' : Mem} (h : JC S M) (f : ∀ c, c < 80 → ¬ (35 ≤ c ∧ c ≤ 57) → M'.1 c = M.1 c ∧ M'.2 c = M.2 c) (hc : CW (S.1 0) M') (hr : Rx0 M') (hz : GZ (vX 41 M')) : JC S M' := by
  obtain ⟨⟨a1, a2, a3⟩, ⟨b1, b2, b3⟩, c1, d1, e1, g1, i1⟩ := h
  have w : ∀ c, c < 80 → ¬ (35 ≤ c ∧ c ≤ 57) → M'.1 c = M.1 c := fun c x y => (f c x y).1
  refine ⟨⟨a1, a2.fr (fun c x y => w c (by omega) (by omega)), hc⟩, ⟨hr, hz, ?_⟩, fun i hi => ⟨(c1 i hi).1.fr (fun c x y => w c (by omega) (by omega)), ?_⟩, ?_, ?_, ?_, ?_⟩
  · rw [vX_fr (fun c x y => w c (by omega) (by omega))]; exact b3
  · rw [w 34 (by omega) (by omega)]; exact (c1 i hi).2
  · rw [w 2 (by omega) (by omega)]; exact d1
  · rw [w 1 (by omega) (by omega)]; exact e1
  · rw [w 77 (by omega) (by omega), w 78 (by omega) (by omega)]; exact g1
  · rw [(f 79 (by omega) (by omega)).2]; exact i1
-- the reference's scratch
def FrJ (N N' : Mem) : Prop := (∀ c, ¬ (c = 80 ∨ (87 ≤ c ∧ c ≤ 113)) → N'.1 c = N.1 c ∧ N'.2 c = N.2 c) ∧ (N'.1 80 5 = N.1 80 5 ∧ N'.1 80 12 = N.1 80 12 ∧ N'.1 80 13 = N.1 80 13)
theorem FrJ.rf {M : Mem} : FrJ M M := ⟨fun _ _ => ⟨rfl, rfl⟩, rfl, rfl, rfl⟩
theorem FrJ.tr {A B C : Mem} (h : FrJ A B) (k : FrJ B C) : FrJ A C := ⟨fun c hc => ⟨(k.1 c hc).1.trans (h.1 c hc).1, (k.1 c hc).2.trans (h.1 c hc).2⟩, k.2.1.trans h.2.1, k.2.2.1.trans h.2.2.1, k.2.2.2.trans h.2.2.2⟩
theorem FrJ.rfr {A B : Mem} (h : FrJ A B) : FrRf A B := fun c hc => h.1 c (by omega)
theorem FrK.j {A B : Mem} (h : FrK 80 A B) : FrJ A B := ⟨fun c hc => ⟨h.1 c (by omega) (by omega), by funext k; exact h.2.2 c k (by omega)⟩, h.2.1 5 (by omega) (by omega), h.2.1 12 (by omega) (by omega), h.2.1 13 (by omega) (by omega)⟩
theorem JR.j {S : St} {N N' : Mem} (h : JR S N) (f : FrJ N N') (hz : GZ (vM 80 N')) : JR S N' := by
  obtain ⟨⟨a1, a2, -⟩, c1, d1, e1, g1, i1⟩ := h
  have w : ∀ c, ¬ (c = 80 ∨ (87 ≤ c ∧ c ≤ 113)) → N'.1 c = N.1 c := fun c x => (f.1 c x).1
  refine ⟨⟨a1, by rw [w 81 (by omega)]; exact a2, hz⟩, ?_, ?_, ?_, ?_, ?_⟩
  · rw [w 82 (by omega), w 83 (by omega)]; exact c1
  · rw [w 84 (by omega)]; exact d1
  · rw [f.2.1, f.2.2.1, f.2.2.2]; exact e1
  · rw [w 114 (by omega), w 115 (by omega)]; exact g1
  · rw [(f.1 116 (by omega)).2]; exact i1
-- one public method, on both sides
def Eq2 (S : St) (fc fr : Mem → Option (Int32 × Mem)) : Prop := ∀ M N, JC S M → JR S N → ∃ v M' N' S', fc M = some (v, M') ∧ fr N = some (v, N') ∧ JC S' M' ∧ JR S' N' ∧ FrCl M M' ∧ FrRf N N'
-- the class's own guesser goes to a moment
section GoTo
variable {W : Wd}
theorem go26 {cf : Cfg} (hc : CfgOk cf) {l : T3} (hl : l.length ≤ 240) (hB : BOk (pl l)) {x : Nat} (hx : x ≤ l.length) : ∀ (m b f : Nat) (M : Mem), b + m = x → m < f → TrX l M → GX cf (gA cf ((pl l).take b)).1 (gA cf ((pl l).take b)).2 41 M → M.1 41 5 = nI b → ∃ M', fX9_goTo_26 f 0 (nI x) (nI b) M = some M' ∧ GX cf (gA cf ((pl l).take x)).1 (gA cf ((pl l).take x)).2 41 M' ∧ M'.1 41 5 = nI x ∧ FrX 41 M M' := by
  intro m
  induction m with
  | zero =>
    intro b f M hm hf hT hG h5
    have : b = x := by omega
    subst this
    cases f with
    | zero => omega
    | succ f =>
      unfold fX9_goTo_26
      rw [if_pos (nI_le (by omega) (by omega))]
      exact ⟨M, rfl, hG, h5, FrX.rf⟩
  | succ m ih =>
    intro b f M hm hf hT hG h5
    cases f with
    | zero => omega
    | succ f =>
      have hb : b < l.length := by omega
      obtain ⟨y, hy⟩ : ∃ y, l[b]? = some y := ⟨l[b], List.getElem?_eq_getElem hb⟩
      obtain ⟨x0, x1, x8⟩ := hT.2 b y hy
      have hpx := pl_get hy
      obtain ⟨hx64, hx01⟩ := hB b _ hpx
      unfold fX9_goTo_26
      simp only [Nat.zero_add]
      rw [if_neg (nI_ge (by omega) (by omega)), show fX8_fact 39 (nI b) 0 M = _ from factX (k := 0) (by omega) (by omega) M, bI_s, show M.1 40 (9 * b + 0) = nI y.1 from x0]
      obtain ⟨M1, e1, g1, a1, f1, m1⟩ := askX hc hx64 hG
      rw [e1, bI_s, show fX8_fact 39 (nI b) 1 M1 = _ from factX (k := 1) (by omega) (by omega) M1, bI_s, (f1 40 (by omega)).1, x1]
      obtain ⟨M3, e3, g3, f3, m3⟩ := learnX hc hx64 hx01 g1 a1
      rw [e3, bV_s, nI_1]
      have ff := f1.tr f3
      obtain ⟨M4, e4, g4, m4, f4⟩ := ih (b + 1) f M3 (by omega) (by omega) (by unfold TrX at *; rw [(ff 39 (by omega)).1, (ff 40 (by omega)).1]; exact hT) (by rw [gA_s cf hpx]; exact g3) (by rw [m3, m1, h5, nI_1])
      exact ⟨M4, e4, g4, m4, ff.tr f4⟩
theorem goToX (hO : WOk W) (hp : pgS W = true) {x : Nat} (hx : x ≤ (allS W).length) {M : Mem} (hC : CW W M) (hz : GZ (vX 41 M)) : ∃ M', fX9_goTo 0 (nI x) M = some M' ∧ GX (cfW W) (gA (cfW W) ((pl (allS W)).take x)).1 (gA (cfW W) ((pl (allS W)).take x)).2 41 M' ∧ M'.1 41 5 = nI x ∧ FrX 41 M M' ∧ CW W M' ∧ GZ (vX 41 M') := by
  have hH := hO.2.1 hp
  have hl := all_len hO.1
  have hB := all_ok hO.1
  obtain ⟨r, ⟨k1, k3⟩, m, hm, h5, hG⟩ := hC.1 hp
  have done : ∀ M', FrX 41 M M' → GX (cfW W) (gA (cfW W) ((pl (allS W)).take x)).1 (gA (cfW W) ((pl (allS W)).take x)).2 41 M' → M'.1 41 5 = nI x → CW W M' ∧ GZ (vX 41 M') := by
    intro M' f g h
    refine ⟨⟨fun _ => ⟨?_, ⟨g.1, g.2.1⟩, x, by omega, h, fun _ => g⟩, ?_, ?_, ?_⟩, by rw [g.2.2.1]; exact (gA_ok hH.2.2 _).2.1⟩
    · unfold RunX RxS Reg at *
      rw [(f 35 (by omega)).1, (f 36 (by omega)).1, (f 37 (by omega)).1]; exact r
    · have := hC.2.1
      unfold TrX at *
      rw [(f 39 (by omega)).1, (f 40 (by omega)).1]; exact this
    · rw [(f 39 (by omega)).1]; exact hC.2.2.1
    · have := hC.2.2.2
      unfold FcX at *
      rw [(f 40 (by omega)).1]; exact this
  unfold fX9_goTo fX9_goTo_18
  simp only [Nat.zero_add]
  rw [h5]
  by_cases hmx : m ≤ x
  · rw [if_pos (nI_le hmx (by omega))]
    obtain ⟨M', e, g, h, f⟩ := go26 hH.2.2 hl hB hx (x - m) m LF M (by omega) (by unfold LF; omega) hC.2.1 (hG (by omega)) h5
    exact ⟨M', e, g, h, f, done M' f g h⟩
  · rw [if_neg (nI_ge (by omega) (by omega))]
    obtain ⟨M1, e1, v1, p1, m1, f1, t1, s1, o1⟩ := clearX (o := 41) (M := M) rfl hz
    rw [e1, bV_s, m1]
    have g1 : GX (cfW W) (gA (cfW W) ((pl (allS W)).take 0)).1 (gA (cfW W) ((pl (allS W)).take 0)).2 41 M1 := by
      rw [gA_0]
      refine ⟨?_, by rw [o1 3 (by omega)]; exact k3, v1, 0, by decide, p1, rfl⟩
      unfold KT at *
      rw [t1 0 (by omega), t1 1 (by omega), t1 2 (by omega), t1 3 (by omega), t1 4 (by omega), show (41 + 1 + 1 : Nat) = 41 + 2 from rfl, s1]
      exact k1
    obtain ⟨M', e, g, h, f⟩ := go26 hH.2.2 hl hB hx x 0 LF M1 (by omega) (by unfold LF; omega) (by have := hC.2.1; unfold TrX at *; rw [(f1 39 (by omega)).1, (f1 40 (by omega)).1]; exact this) g1 m1
    exact ⟨M', e, g, h, f1.tr f, done M' (f1.tr f) g h⟩
end GoTo
