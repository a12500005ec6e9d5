-- ITEMS: what one item makes of what was told so far; the class reads it so
def setI (f : Int → Int) (k v : Int) : Int → Int := fun i => if i = k then v else f i
theorem up_set {h : aH} {k : Nat} {i x : Int} : up h k i x k = setI (h k) i x := by rw [up_row, if_pos rfl]; rfl
def may (a : Int → Int) (L : Int) (j : Nat) (n pc : Int) : Bool := decide (tK a L j = 1) && ((!decide (tV a L j = 112) || decide (n < 4)) && (!decide (tV a L j = 98) || decide (pc < 5)))
theorem may_iff {a : Int → Int} {L : Int} {j : Nat} {n pc : Int} : may a L j n pc = true ↔ tK a L j = 1 ∧ (tV a L j = 112 → n < 4) ∧ (tV a L j = 98 → pc < 5) := by
  unfold may
  simp only [Bool.and_eq_true, Bool.or_eq_true, Bool.not_eq_true', decide_eq_true_eq, decide_eq_false_iff_not]
  constructor
  · rintro ⟨h1, h2, h3⟩
    exact ⟨h1, fun z => by rcases h2 with h2 | h2; exact absurd z h2; exact h2, fun z => by rcases h3 with h3 | h3; exact absurd z h3; exact h3⟩
  · rintro ⟨h1, h2, h3⟩
    refine ⟨h1, ?_, ?_⟩
    · by_cases z : tV a L j = 112
      · exact Or.inr (h2 z)
      · exact Or.inl z
    · by_cases z : tV a L j = 98
      · exact Or.inr (h3 z)
      · exact Or.inl z
def fpp (a : Int → Int) (L f0 : Int) (j : Nat) : Nat → Int
  | 0 => f0
  | m + 1 => nfl (fpp a L f0 j m) (okn a L 0 9 (j + 1 + m)) (tS a L (j + 1 + m))
def fhp (a : Int → Int) (L : Int) (fh : Int → Int) (n : Int) (j : Nat) : Nat → Int → Int
  | 0 => fh
  | m + 1 => setI (fhp a L fh n j m) (4 * n + (m : Int)) (tV a L (j + 1 + m))
theorem fpp_s {a : Int → Int} {L f0 : Int} {j m : Nat} : fpp a L f0 j (m + 1) = nfl (fpp a L f0 j m) (okn a L 0 9 (j + 1 + m)) (tS a L (j + 1 + m)) := rfl
theorem fhp_s {a : Int → Int} {L n : Int} {fh : Int → Int} {j m : Nat} : fhp a L fh n j (m + 1) = setI (fhp a L fh n j m) (4 * n + (m : Int)) (tV a L (j + 1 + m)) := rfl
abbrev PS : Type := Int × Nat × Int × Int × (Int → Int) × (Int → Int) × (Int → Int) × (Int → Int)
def fW (a : Int → Int) (L f0 : Int) (j : Nat) : Int := nfl (nfl (nfl f0 (okn a L 0 3 (j + 1)) (tS a L (j + 1))) (okn a L 1 20 (j + 1 + 1)) (tS a L (j + 1 + 1))) (oke a L (j + 1 + 1 + 1)) (tS a L (j + 1 + 1 + 1))
def fP (a : Int → Int) (L f0 : Int) (j : Nat) : Int := nfl (fpp a L f0 j 4) (oke a L (j + 1 + 4)) (tS a L (j + 1 + 4))
def fG (a : Int → Int) (L n f0 : Int) (j : Nat) : Int := nfl (nfl (nfl (nfl f0 (okn a L 0 (n - 1) (j + 1)) (tS a L (j + 1))) (okn a L 0 3 (j + 1 + 1)) (tS a L (j + 1 + 1))) (okn a L 0 3 (j + 1 + 1 + 1)) (tS a L (j + 1 + 1 + 1))) (oke a L (j + 1 + 1 + 1 + 1)) (tS a L (j + 1 + 1 + 1 + 1))
def fB (a : Int → Int) (L f0 : Int) (j : Nat) : Int := nfl (nfl f0 (okn a L 1 60 (j + 1)) (tS a L (j + 1))) (oke a L (j + 1 + 1)) (tS a L (j + 1 + 1))
def stp (a : Int → Int) (L : Int) (x : PS) : PS :=
  match x with
  | (_, j, n, pc, w, fh, gr, b) =>
    if ¬ may a L j n pc = true then (tS a L j, j, n, pc, w, fh, gr, b)
    else if tV a L j = 115 then (fW a L (-1) j, j + 4, n, pc, setI w (tV a L (j + 1)) (tV a L (j + 1 + 1)), fh, gr, b)
    else if tV a L j = 112 then (fP a L (-1) j, j + 6, n + 1, pc, w, fhp a L fh n j 4, gr, b)
    else if tV a L j = 103 then (fG a L n (-1) j, j + 5, n, pc, w, fh, setI gr (tV a L (j + 1) * 4 + tV a L (j + 1 + 1)) (tV a L (j + 1 + 1 + 1)), b)
    else (fB a L (-1) j, j + 3, n, pc + 1, w, fh, gr, setI b pc (tV a L (j + 1)))
def CD (h : aH) (x : PS) : Prop := h 8 4 = x.2.2.1 ∧ h 8 5 = x.2.2.2.1 ∧ h 9 = x.2.2.2.2.1 ∧ h 10 = x.2.2.2.2.2.1 ∧ h 11 = x.2.2.2.2.2.2.1 ∧ h 12 = x.2.2.2.2.2.2.2
def CP (a : Int → Int) (L : Int) (h : aH) (x : PS) : Prop := CRd a L h x.1 x.2.1 ∧ (x.1 = -1 → CD h x)
def FrC (h g : aH) : Prop := ∀ c, c ≠ 1 → ¬ (8 ≤ c ∧ c ≤ 12) → g c = h c
theorem CRd.fr {a : Int → Int} {L f : Int} {h h' : aH} {j : Nat} (s : CRd a L h f j) (e1 : h' 1 = h 1) (e2 : h' 2 = h 2) : CRd a L h' f j := by
  unfold CRd
  rw [e1, e2]
  exact s
theorem CRd.bd {a : Int → Int} {L f : Int} {h : aH} {j : Nat} (s : CRd a L h f j) : (f = -1 ∨ 0 ≤ f) ∧ f ≤ 150 := by
  rcases s.2.2.2.2 with z | z <;> omega
theorem CRd.j {a : Int → Int} {L f : Int} {h : aH} {j k : Nat} (s : CRd a L h f j) (e : j = k) : CRd a L h f k := e ▸ s
theorem fl_0 {F : Int} (q : (if F = -1 then 0 else 1 : Int) = 0) : F = -1 := by
  by_cases z : F = -1
  · exact z
  · rw [if_neg z] at q; omega
theorem fl_1 {F : Int} (q : ¬ (if F = -1 then 0 else 1 : Int) = 0) : ¬ F = -1 := fun z => by rw [if_pos z] at q; exact q rfl
theorem sp_rWeight {a : Int → Int} {L f n pc : Int} {w fh gr b : Int → Int} {j : Nat} {h : aH} {Q : aH → Prop} (tx : TX a L) (cs : CRd a L h f (j + 1)) (cd : CD h (f, j, n, pc, w, fh, gr, b)) (kk : ∀ g, FrC h g → CP a L g (fW a L f j, j + 4, n, pc, setI w (tV a L (j + 1)) (tV a L (j + 1 + 1)), fh, gr, b) → Q g) : wp_X6_readWeight h Q := by
  unfold wp_X6_readWeight
  refine sp_rN tx (inR_of (by omega) (by omega)) (inR_of (by omega) (by omega)) cs (fun r1 g1 a1 c1 v1 => sp_rN tx (inR_of (by omega) (by omega)) (inR_of (by omega) (by omega)) c1 (fun r2 g2 a2 c2 v2 => sp_rE tx c2 (fun g3 a3 c3 => ?_)))
  have e3 : ∀ c, c ≠ 1 → g3 c = h c := fun c hc => by rw [a3 c hc, a2 c hc, a1 c hc]
  have cb := c3.bd
  unfold wp_X6_hasFault
  rw [c3.2.2.1]
  refine ⟨⟨inR_of (by omega) (by omega), trivial⟩, fun q => ?_, fun q => ?_⟩
  · have q := fl_0 q
    obtain ⟨q2, o3⟩ := (nfl_iff (tS_bd tx _).1).mp q
    obtain ⟨q1, o2⟩ := (nfl_iff (tS_bd tx _).1).mp q2
    obtain ⟨q0, o1⟩ := (nfl_iff (tS_bd tx _).1).mp q1
    have o1 := okn_iff.mp o1
    rw [v1 q1, v2 q2]
    refine ⟨⟨by omega, by omega⟩, ?_⟩
    rintro _ rfl
    refine kk _ (fun c k1 k2 => by rw [up_ne (by omega), e3 c k1]) ⟨(c3.fr (up_ne (by decide)) (up_ne (by decide))).j rfl, fun _ => ?_⟩
    unfold CD at cd ⊢
    dsimp only at cd ⊢
    rw [up_ne (k' := 8) (by decide), up_ne (k' := 10) (by decide), up_ne (k' := 11) (by decide), up_ne (k' := 12) (by decide), up_set, e3 8 (by decide), e3 9 (by decide), e3 10 (by decide), e3 11 (by decide), e3 12 (by decide)]
    exact ⟨cd.1, cd.2.1, by rw [cd.2.2.1], cd.2.2.2⟩
  · have q := fl_1 q
    exact kk _ (fun c k1 k2 => e3 c k1) ⟨c3.j rfl, fun z => absurd z q⟩
theorem sp_rGrowth {a : Int → Int} {L f n pc : Int} {w fh gr b : Int → Int} {j : Nat} {h : aH} {Q : aH → Prop} (tx : TX a L) (hn : 0 ≤ n ∧ n ≤ 4) (cs : CRd a L h f (j + 1)) (cd : CD h (f, j, n, pc, w, fh, gr, b)) (kk : ∀ g, FrC h g → CP a L g (fG a L n f j, j + 5, n, pc, w, fh, setI gr (tV a L (j + 1) * 4 + tV a L (j + 1 + 1)) (tV a L (j + 1 + 1 + 1)), b) → Q g) : wp_X6_readGrowth h Q := by
  unfold wp_X6_readGrowth
  have en : h 8 4 = n := cd.1
  rw [en]
  refine sp_rN tx (inR_of (by omega) (by omega)) (inR_of (by omega) (by omega)) cs (fun r1 g1 a1 c1 v1 => sp_rN tx (inR_of (by omega) (by omega)) (inR_of (by omega) (by omega)) c1 (fun r2 g2 a2 c2 v2 => sp_rN tx (inR_of (by omega) (by omega)) (inR_of (by omega) (by omega)) c2 (fun r3 g3 a3 c3 v3 => sp_rE tx c3 (fun g4 a4 c4 => ?_))))
  have e3 : ∀ c, c ≠ 1 → g4 c = h c := fun c hc => by rw [a4 c hc, a3 c hc, a2 c hc, a1 c hc]
  have cb := c4.bd
  unfold wp_X6_hasFault
  rw [c4.2.2.1]
  refine ⟨⟨inR_of (by omega) (by omega), trivial⟩, fun q => ?_, fun q => ?_⟩
  · have q := fl_0 q
    obtain ⟨q3, o4⟩ := (nfl_iff (tS_bd tx _).1).mp q
    obtain ⟨q2, o3⟩ := (nfl_iff (tS_bd tx _).1).mp q3
    obtain ⟨q1, o2⟩ := (nfl_iff (tS_bd tx _).1).mp q2
    obtain ⟨q0, o1⟩ := (nfl_iff (tS_bd tx _).1).mp q1
    have o1 := okn_iff.mp o1
    have o2 := okn_iff.mp o2
    rw [v1 q1, v2 q2, v3 q3]
    refine ⟨⟨by omega, by omega⟩, ?_⟩
    rintro _ rfl
    refine kk _ (fun c k1 k2 => by rw [up_ne (by omega), e3 c k1]) ⟨(c4.fr (up_ne (by decide)) (up_ne (by decide))).j rfl, fun _ => ?_⟩
    unfold CD at cd ⊢
    dsimp only at cd ⊢
    rw [up_ne (k' := 8) (by decide), up_ne (k' := 9) (by decide), up_ne (k' := 10) (by decide), up_ne (k' := 12) (by decide), up_set, e3 8 (by decide), e3 9 (by decide), e3 10 (by decide), e3 11 (by decide), e3 12 (by decide)]
    exact ⟨cd.1, cd.2.1, cd.2.2.1, cd.2.2.2.1, by rw [cd.2.2.2.2.1], cd.2.2.2.2.2⟩
  · have q := fl_1 q
    exact kk _ (fun c k1 k2 => e3 c k1) ⟨c4.j rfl, fun z => absurd z q⟩
theorem sp_rPiece {a : Int → Int} {L f n pc : Int} {w fh gr b : Int → Int} {j : Nat} {h : aH} {Q : aH → Prop} (tx : TX a L) (hpc : 0 ≤ pc ∧ pc < 5) (cs : CRd a L h f (j + 1)) (cd : CD h (f, j, n, pc, w, fh, gr, b)) (kk : ∀ g, FrC h g → CP a L g (fB a L f j, j + 3, n, pc + 1, w, fh, gr, setI b pc (tV a L (j + 1))) → Q g) : wp_X6_readPiece h Q := by
  unfold wp_X6_readPiece
  refine sp_rN tx (inR_of (by omega) (by omega)) (inR_of (by omega) (by omega)) cs (fun r1 g1 a1 c1 v1 => sp_rE tx c1 (fun g3 a3 c3 => ?_))
  have e3 : ∀ c, c ≠ 1 → g3 c = h c := fun c hc => by rw [a3 c hc, a1 c hc]
  have cb := c3.bd
  unfold wp_X6_hasFault
  rw [c3.2.2.1]
  refine ⟨⟨inR_of (by omega) (by omega), trivial⟩, fun q => ?_, fun q => ?_⟩
  · have q := fl_0 q
    obtain ⟨q1, o2⟩ := (nfl_iff (tS_bd tx _).1).mp q
    have ep : g3 8 5 = pc := by rw [e3 8 (by decide)]; exact cd.2.1
    rw [v1 q1, ep]
    refine ⟨⟨by omega, by omega⟩, ?_⟩
    rintro _ rfl
    rw [up_ne (by decide), ep]
    rintro _ rfl
    refine kk _ (fun c k1 k2 => by rw [up_ne (by omega), up_ne (by omega), e3 c k1]) ⟨(c3.fr (by rw [up_ne (by decide), up_ne (by decide)]) (by rw [up_ne (by decide), up_ne (by decide)])).j rfl, fun _ => ?_⟩
    unfold CD at cd ⊢
    dsimp only at cd ⊢
    rw [up_eq, if_neg (by decide), up_eq, if_pos rfl, up_ne (by decide), up_ne (k' := 9) (by decide), up_ne (k' := 9) (by decide), up_ne (k' := 10) (by decide), up_ne (k' := 10) (by decide), up_ne (k' := 11) (by decide), up_ne (k' := 11) (by decide), up_ne (k' := 12) (by decide), up_set, e3 8 (by decide), e3 9 (by decide), e3 10 (by decide), e3 11 (by decide), e3 12 (by decide)]
    exact ⟨cd.1, rfl, cd.2.2.1, cd.2.2.2.1, cd.2.2.2.2.1, by rw [cd.2.2.2.2.2]⟩
  · have q := fl_1 q
    exact kk _ (fun c k1 k2 => e3 c k1) ⟨c3.j rfl, fun z => absurd z q⟩
theorem sp_rPerson {a : Int → Int} {L f n pc : Int} {w fh gr b : Int → Int} {j : Nat} {h : aH} {Q : aH → Prop} (tx : TX a L) (hn : 0 ≤ n ∧ n < 4) (cs : CRd a L h f (j + 1)) (cd : CD h (f, j, n, pc, w, fh, gr, b)) (kk : ∀ g, FrC h g → CP a L g (fP a L f j, j + 6, n + 1, pc, w, fhp a L fh n j 4, gr, b) → Q g) : wp_X6_readPerson h Q := by
  unfold wp_X6_readPerson
  have en : h 8 4 = n := cd.1
  refine lp.rule (μ := fun y => (5 - y.1).toNat) (I := fun y => ∃ m : Nat, m ≤ 4 ∧ y.1 = (m : Int) ∧ (∀ c, c ≠ 1 → c ≠ 10 → y.2 c = h c) ∧ CRd a L y.2 (fpp a L f j m) (j + 1 + m) ∧ (fpp a L f j m = -1 → y.2 10 = fhp a L fh n j m)) ?_ (0, h) ⟨0, by omega, rfl, fun _ _ _ => rfl, cs, fun _ => cd.2.2.2.1⟩
  rintro X ⟨t, g⟩ ⟨m, hm, et, g1, g2, g3⟩ hX
  dsimp only at et g1 g2 g3 ⊢
  subst et
  unfold wp_X6_readPerson_B2 wp_X6_readPerson_J36
  refine ⟨inR_of (by omega) (by omega), fun q => ?_, fun q => ?_⟩
  · have em : m = 4 := by omega
    subst em
    refine sp_rE tx g2 (fun g4 a4 c4 => ?_)
    have e3 : ∀ c, c ≠ 1 → c ≠ 10 → g4 c = h c := fun c hc h10 => by rw [a4 c hc, g1 c hc h10]
    have cb := c4.bd
    unfold wp_X6_hasFault
    rw [c4.2.2.1]
    refine ⟨⟨inR_of (by omega) (by omega), trivial⟩, fun q => ?_, fun q => ?_⟩
    · have q := fl_0 q
      obtain ⟨q1, o1⟩ := (nfl_iff (tS_bd tx _).1).mp q
      rintro _ rfl
      rw [e3 8 (by decide) (by decide), en]
      refine kk _ (fun c k1 k2 => by rw [up_ne (by omega), e3 c k1 (by omega)]) ⟨(c4.fr (by rw [up_ne (by decide)]) (by rw [up_ne (by decide)])).j rfl, fun _ => ?_⟩
      unfold CD at cd ⊢
      dsimp only at cd ⊢
      rw [up_eq, if_pos rfl, up_eq, if_neg (by decide), up_ne (by decide), up_ne (by decide), up_ne (by decide), up_ne (by decide), e3 8 (by decide) (by decide), e3 9 (by decide) (by decide), a4 10 (by decide), g3 q1, e3 11 (by decide) (by decide), e3 12 (by decide) (by decide)]
      exact ⟨rfl, cd.2.1, cd.2.2.1, rfl, cd.2.2.2.2⟩
    · have q := fl_1 q
      exact kk _ (fun c k1 k2 => e3 c k1 (by omega)) ⟨c4.j rfl, fun z => absurd z q⟩
  · refine sp_rN tx (inR_of (by omega) (by omega)) (inR_of (by omega) (by omega)) g2 (fun r g4 a4 c4 v4 => ?_)
    have e3 : ∀ c, c ≠ 1 → c ≠ 10 → g4 c = h c := fun c hc h10 => by rw [a4 c hc, g1 c hc h10]
    rw [← fpp_s] at c4 v4
    have cb := c4.bd
    unfold wp_X6_hasFault
    rw [c4.2.2.1, e3 8 (by decide) (by decide), en]
    refine ⟨⟨inR_of (by omega) (by omega), trivial⟩, fun q => ⟨⟨by omega, by omega⟩, ?_⟩, fun q => ?_⟩
    · have q := fl_0 q
      have q1 := ((nfl_iff (tS_bd tx _).1).mp (fpp_s ▸ q)).1
      rintro _ rfl
      refine hX _ ⟨m + 1, by omega, by dsimp only; omega, fun c k1 k2 => by dsimp only; rw [up_ne k2, e3 c k1 k2], (c4.fr (by dsimp only; rw [up_ne (by decide)]) (by dsimp only; rw [up_ne (by decide)])).j rfl, fun _ => ?_⟩ (by dsimp only; omega)
      dsimp only
      rw [up_set, a4 10 (by decide), g3 q1, v4 q, fhp_s, show n * 4 + (m : Int) = 4 * n + (m : Int) by omega]
    · have q := fl_1 q
      exact hX _ ⟨m + 1, by omega, by dsimp only; omega, fun c k1 k2 => e3 c k1 k2, c4.j rfl, fun z => absurd z q⟩ (by dsimp only; omega)
theorem tk_let {a : Int → Int} {L : Int} {j : Nat} (hs : tS a L j < L) : (tK a L j = 1 ↔ a (tS a L j) = 115 ∨ a (tS a L j) = 112 ∨ a (tS a L j) = 103 ∨ a (tS a L j) = 98) ∧ (tK a L j = 1 → tV a L j = a (tS a L j)) := by
  refine ⟨⟨fun z => ?_, fun z => ?_⟩, fun z => (tV_1 z).2.2.1⟩
  · have k := tV_1 z
    rw [k.2.2.1] at k
    exact k.2.2.2.1
  · unfold tK tkS
    have d : ¬ isD a L (tS a L j) = true := by rw [isD_iff]; omega
    rw [if_neg (by omega), if_neg d, if_neg (by omega), if_pos z]
theorem stp_no {a : Int → Int} {L f n pc : Int} {w fh gr b : Int → Int} {j : Nat} (hm : ¬ may a L j n pc = true) : stp a L (f, j, n, pc, w, fh, gr, b) = (tS a L j, j, n, pc, w, fh, gr, b) := by
  unfold stp
  dsimp only
  rw [if_pos hm]
theorem stp_W {a : Int → Int} {L f n pc : Int} {w fh gr b : Int → Int} {j : Nat} (hm : may a L j n pc = true) (hv : tV a L j = 115) : stp a L (f, j, n, pc, w, fh, gr, b) = (fW a L (-1) j, j + 4, n, pc, setI w (tV a L (j + 1)) (tV a L (j + 1 + 1)), fh, gr, b) := by
  unfold stp
  dsimp only
  rw [if_neg (fun z => z hm), if_pos hv]
theorem stp_P {a : Int → Int} {L f n pc : Int} {w fh gr b : Int → Int} {j : Nat} (hm : may a L j n pc = true) (hv : tV a L j = 112) : stp a L (f, j, n, pc, w, fh, gr, b) = (fP a L (-1) j, j + 6, n + 1, pc, w, fhp a L fh n j 4, gr, b) := by
  unfold stp
  dsimp only
  rw [if_neg (fun z => z hm), if_neg (by omega), if_pos hv]
theorem stp_G {a : Int → Int} {L f n pc : Int} {w fh gr b : Int → Int} {j : Nat} (hm : may a L j n pc = true) (hv : tV a L j = 103) : stp a L (f, j, n, pc, w, fh, gr, b) = (fG a L n (-1) j, j + 5, n, pc, w, fh, setI gr (tV a L (j + 1) * 4 + tV a L (j + 1 + 1)) (tV a L (j + 1 + 1 + 1)), b) := by
  unfold stp
  dsimp only
  rw [if_neg (fun z => z hm), if_neg (by omega), if_neg (by omega), if_pos hv]
theorem stp_B {a : Int → Int} {L f n pc : Int} {w fh gr b : Int → Int} {j : Nat} (hm : may a L j n pc = true) (hv : tV a L j = 98) : stp a L (f, j, n, pc, w, fh, gr, b) = (fB a L (-1) j, j + 3, n, pc + 1, w, fh, gr, setI b pc (tV a L (j + 1))) := by
  unfold stp
  dsimp only
  rw [if_neg (fun z => z hm), if_neg (by omega), if_neg (by omega), if_neg (by omega)]
theorem sp_rItem {a : Int → Int} {L n pc : Int} {w fh gr b : Int → Int} {j : Nat} {h : aH} {Q : aH → Prop} (tx : TX a L) (hn : 0 ≤ n ∧ n ≤ 4) (hpc : 0 ≤ pc ∧ pc ≤ 5) (ea : h 2 = a) (eL : h 1 1 = L) (e3 : h 1 3 = -1) (e2 : h 1 2 = tS a L j) (hs : tS a L j < L) (cd : CD h (-1, j, n, pc, w, fh, gr, b)) (kk : ∀ g, FrC h g → CP a L g (stp a L (-1, j, n, pc, w, fh, gr, b)) → Q g) : wp_X6_readItem h Q := by
  have hL := tx.1
  have bS := tS_bd tx j
  have ha := tx.2 (tS a L j) (by omega) (by omega)
  have tl := tk_let hs
  unfold wp_X6_readItem
  have en : h 8 4 = n := cd.1
  have ep : h 8 5 = pc := cd.2.1
  rw [ea, e2, en, ep]
  refine ⟨⟨by omega, by omega⟩, ?_⟩
  rintro _ rfl
  have ir : inR (a (tS a L j)) := inR_of (by omega) (by omega)
  have irn : inR n := inR_of (by omega) (by omega)
  have irp : inR pc := inR_of (by omega) (by omega)
  refine ⟨⟨ir, fun _ => trivial, fun _ => ⟨fun _ => trivial, fun _ => ⟨fun _ => ⟨irn, fun _ => trivial, fun _ => ⟨fun _ => ⟨irp, trivial⟩, fun _ => trivial⟩⟩, fun _ => ⟨fun _ => ⟨irp, trivial⟩, fun _ => trivial⟩⟩⟩⟩, ?_⟩
  rintro _ rfl
  generalize ex : (if a (tS a L j) = 115 then 1 else (if a (tS a L j) = 103 then 1 else (if a (tS a L j) = 112 then (if n < 4 then 1 else (if a (tS a L j) = 98 then (if 5 ≤ pc then 0 else 1 : Int) else 0 : Int) : Int) else (if a (tS a L j) = 98 then (if 5 ≤ pc then 0 else 1 : Int) else 0 : Int) : Int) : Int) : Int) = x3
  have hx : (may a L j n pc = true ∧ x3 = 1) ∨ (¬ may a L j n pc = true ∧ x3 = 0) := by
    rw [may_iff, ← ex]
    by_cases z : a (tS a L j) = 115 ∨ a (tS a L j) = 112 ∨ a (tS a L j) = 103 ∨ a (tS a L j) = 98
    · have k1 := tl.1.mpr z
      rw [tl.2 k1]
      rcases z with z | z | z | z
      · rw [if_pos z]; exact Or.inl ⟨⟨k1, fun _ => by omega, fun _ => by omega⟩, rfl⟩
      · rw [if_neg (by omega), if_neg (by omega), if_pos z]
        by_cases y : n < 4
        · rw [if_pos y]; exact Or.inl ⟨⟨k1, fun _ => y, fun _ => by omega⟩, rfl⟩
        · rw [if_neg y, if_neg (by omega)]; exact Or.inr ⟨fun q => y (q.2.1 z), rfl⟩
      · rw [if_neg (by omega), if_pos z]; exact Or.inl ⟨⟨k1, fun _ => by omega, fun _ => by omega⟩, rfl⟩
      · rw [if_neg (by omega), if_neg (by omega), if_neg (by omega), if_pos z]
        by_cases y : 5 ≤ pc
        · rw [if_pos y]; exact Or.inr ⟨fun q => by have := q.2.2 z; omega, rfl⟩
        · rw [if_neg y]; exact Or.inl ⟨⟨k1, fun _ => by omega, fun _ => by omega⟩, rfl⟩
    · rw [if_neg (by omega), if_neg (by omega), if_neg (by omega), if_neg (by omega)]
      exact Or.inr ⟨fun q => z (tl.1.mp q.1), rfl⟩
  refine ⟨inR_of (by omega) (by omega), fun q => ?_, fun q => ?_⟩
  · rintro _ rfl
    have hm : ¬ may a L j n pc = true := by
      rcases hx with hx | hx
      · omega
      · exact hx.1
    rw [stp_no hm] at kk
    refine kk _ (fun c k1 k2 => up_ne k1) ⟨⟨by rw [up_ne (by decide)]; exact ea, by rw [up_eq, if_neg (by decide)]; exact eL, by rw [up_eq, if_pos rfl], by rw [up_eq, if_neg (by decide), e2]; omega, Or.inr (by dsimp only; omega)⟩, fun z => ?_⟩
    dsimp only at z
    omega
  · have hm : may a L j n pc = true := by
      rcases hx with hx | hx
      · exact hx.1
      · omega
    have m := may_iff.mp hm
    have v1 := tV_1 m.1
    rintro _ rfl
    have cs1 : CRd a L (up h 1 2 (tS a L j + 1)) (-1) (j + 1) := ⟨by rw [up_ne (by decide)]; exact ea, by rw [up_eq, if_neg (by decide)]; exact eL, by rw [up_eq, if_neg (by decide)]; exact e3, by rw [up_eq, if_pos rfl]; omega, Or.inl ⟨rfl, by rw [up_eq, if_pos rfl]; exact v1.2.2.2.2.symm⟩⟩
    have cd1 : CD (up h 1 2 (tS a L j + 1)) (-1, j, n, pc, w, fh, gr, b) := by
      unfold CD at cd ⊢
      rw [up_ne (by decide), up_ne (by decide), up_ne (by decide), up_ne (by decide), up_ne (by decide)]
      exact cd
    have fr1 : ∀ g, FrC (up h 1 2 (tS a L j + 1)) g → FrC h g := fun g k c k1 k2 => by rw [k c k1 k2, up_ne k1]
    refine ⟨ir, fun z => ?_, fun z => ⟨fun z2 => ?_, fun z2 => ⟨fun z3 => ?_, fun z3 => ?_⟩⟩⟩
    · rw [stp_W hm (by omega)] at kk
      exact sp_rWeight tx cs1 cd1 (fun g k1 k2 => kk g (fr1 g k1) k2)
    · rw [stp_P hm (by omega)] at kk
      have := m.2.1 (by omega)
      exact sp_rPerson tx ⟨by omega, by omega⟩ cs1 cd1 (fun g k1 k2 => kk g (fr1 g k1) k2)
    · rw [stp_G hm (by omega)] at kk
      exact sp_rGrowth tx hn cs1 cd1 (fun g k1 k2 => kk g (fr1 g k1) k2)
    · rw [stp_B hm (by omega)] at kk
      have := m.2.2 (by omega)
      exact sp_rPiece tx ⟨by omega, by omega⟩ cs1 cd1 (fun g k1 k2 => kk g (fr1 g k1) k2)
