-- level: the class's and the reference's
theorem RR_all {w f : Int → Int} {p : Int} (hp : 0 ≤ p ∧ p < 4) (hf : ∀ j, 0 ≤ j → j < 16 → 0 ≤ f j ∧ f j ≤ 9) : RR w (hdC f p) (hv w f p) (hdC f p 0 + hdC f p 1 + hdC f p 2 + hdC f p 3) := by
  obtain ⟨e0, e1, e2, e3⟩ := hd4 (f := f) (p := p)
  have f0 := hf (4 * p) (by omega) (by omega)
  have f1 := hf (4 * p + 1) (by omega) (by omega)
  have f2 := hf (4 * p + 2) (by omega) (by omega)
  have f3 := hf (4 * p + 3) (by omega) (by omega)
  exact ⟨hdC f p 0, hdC f p 1, hdC f p 2, hdC f p 3, by omega, by rw [← TW_hv]; rfl, rfl⟩
theorem FM_all {w f F : Int → Int} {p : Int} (hp : 0 ≤ p ∧ p < 4) (hw : ∀ j, 0 ≤ j → j < 4 → 1 ≤ w j ∧ w j ≤ 20) (hf : ∀ j, 0 ≤ j → j < 16 → 0 ≤ f j ∧ f j ≤ 9) (fm : FM w (hdC f p) F) : 0 ≤ F (hv w f p) ∧ F (hv w f p) ≤ 36 := by
  have b := hv_bd (w := w) (f := f) hp hw hf
  rcases fm (hv w f p) b.1 b.2 with ⟨_, z⟩ | ⟨_, z, _⟩
  · exact absurd (RR_all hp hf) (z _)
  · exact z
/-- as few things as the class and the reference have them -/
theorem FG {w f F G : Int → Int} {p t : Int} (hp : 0 ≤ p ∧ p < 4) (hw : ∀ j, 0 ≤ j → j < 4 → 1 ≤ w j ∧ w j ≤ 20) (hf : ∀ j, 0 ≤ j → j < 16 → 0 ≤ f j ∧ f j ≤ 9) (fm : FM w (hdC f p) F) (gr : GR w f p G) (ht : 0 ≤ t ∧ t ≤ 720) : (t ≤ hv w f p ∧ F (hv w f p - t) = G t ∧ (0 ≤ G t ∧ G t ≤ 36) ∧ RR w (hdC f p) (hv w f p - t) (G t)) ∨ (G t = 1000000 ∧ (t ≤ hv w f p → F (hv w f p - t) = 1000)) := by
  have b := hv_bd (w := w) (f := f) hp hw hf
  rcases gr t ht.1 ht.2 with ⟨g1, g2⟩ | ⟨g1, g2, g3⟩
  · refine Or.inr ⟨g1, fun q => ?_⟩
    rcases fm (hv w f p - t) (by omega) (by omega) with z | z
    · exact z.1
    · exact absurd z.1 (g2 _)
  · have rb := g1.bd (fun j a c => (hw j a c).1)
    refine Or.inl ⟨by omega, ?_, g2, g1⟩
    rcases fm (hv w f p - t) (by omega) (by omega) with z | ⟨z1, z2, z3⟩
    · exact absurd g1 (z.2 _)
    · have := z3 _ g1
      have := g3 _ z1
      omega
def OPT (S : Int → Int) (m t : Int) : Prop := (0 ≤ t ∧ t ≤ m) ∧ ∀ t', 0 ≤ t' → t' ≤ m → S t ≤ S t' ∧ (t < t' → S t < S t')
theorem OPT.uniq {S : Int → Int} {m t t' : Int} (a : OPT S m t) (b : OPT S m t') : t = t' := by
  have x := a.2 t' b.1.1 b.1.2
  have y := b.2 t a.1.1 a.1.2
  by_cases q : t < t'
  · have := x.2 q; omega
  · by_cases q2 : t' < t
    · have := y.2 q2; omega
    · omega
theorem sp_find {p q : Int} {h : aH} {Q : aH → Prop} (hp : 0 ≤ p ∧ p < 4) (hq : 0 ≤ q ∧ q < 4) (hw : ∀ j, 0 ≤ j → j < 4 → 1 ≤ h 4 j ∧ h 4 j ≤ 20) (hf : ∀ j, 0 ≤ j → j < 16 → 0 ≤ h 14 j ∧ h 14 j ≤ 9) (kk : ∀ (g : aH) (t : Int), (∀ c, c ≠ 49 → c ≠ 50 → c ≠ 51 → g c = h c) → FM (h 4) (hdC (h 14) p) (g 50) → FM (h 4) (hdC (h 14) q) (g 51) → OPT (fun t => g 50 (hv (h 4) (h 14) p - t) + g 51 (hv (h 4) (h 14) q - t)) (min (hv (h 4) (h 14) p) (hv (h 4) (h 14) q)) t → g 49 3 = t → g 49 2 = g 50 (hv (h 4) (h 14) p - t) + g 51 (hv (h 4) (h 14) q - t) → g 49 2 < 1000 → g 49 4 = hv (h 4) (h 14) p - t → g 49 5 = hv (h 4) (h 14) q - t → Q g) : wp_X3_find p q h Q := by
  unfold wp_X3_find
  refine sp_countFewest (by decide) hp hw hf (fun g1 a1 fm1 => ?_)
  refine sp_countFewest (by decide) hq (by rw [a1 4 (by decide)]; exact hw) (by rw [a1 14 (by decide)]; exact hf) (fun g2 a2 fm2 => ?_)
  rw [a1 4 (by decide), a1 14 (by decide)] at fm2 ⊢
  have fm1' : FM (h 4) (hdC (h 14) p) (g2 50) := by rw [a2 50 (by decide)]; exact fm1
  have bp := hv_bd (w := h 4) (f := h 14) hp hw hf
  have bq := hv_bd (w := h 4) (f := h 14) hq hw hf
  have zp := FM_all hp hw hf fm1'
  have zq := FM_all hq hw hf fm2
  generalize hv (h 4) (h 14) p = vp at *
  generalize hv (h 4) (h 14) q = vq at *
  have r1 : ∀ v, 0 ≤ v → v ≤ 720 → 0 ≤ g2 50 v ∧ g2 50 v ≤ 1000 := fun v v0 v1 => fm1'.rng v0 v1
  have r2 : ∀ v, 0 ≤ v → v ≤ 720 → 0 ≤ g2 51 v ∧ g2 51 v ≤ 1000 := fun v v0 v1 => fm2.rng v0 v1
  rintro _ rfl
  rintro _ rfl
  refine ⟨inR_of (by omega) (by omega), inR_of (by omega) (by omega), ?_⟩
  rintro _ rfl
  refine lp.rule (μ := fun z => (z.1 + 1).toNat) (I := fun z => (-1 ≤ z.1 ∧ z.1 ≤ min vp vq) ∧ (∀ c, c ≠ 49 → z.2 c = g2 c) ∧ ((z.2 49 2 = 1000 ∧ ∀ t', z.1 < t' → t' ≤ min vp vq → 1000 ≤ g2 50 (vp - t') + g2 51 (vq - t')) ∨ (z.2 49 2 < 1000 ∧ (z.1 < z.2 49 3 ∧ z.2 49 3 ≤ min vp vq) ∧ z.2 49 2 = g2 50 (vp - z.2 49 3) + g2 51 (vq - z.2 49 3) ∧ ∀ t', z.1 < t' → t' ≤ min vp vq → z.2 49 2 ≤ g2 50 (vp - t') + g2 51 (vq - t') ∧ (z.2 49 3 < t' → z.2 49 2 < g2 50 (vp - t') + g2 51 (vq - t'))))) ?_ (min vp vq, up (up g2 49 2 1000) 49 3 0) ⟨⟨by dsimp only; omega, by dsimp only; omega⟩, fun c hc => by dsimp only; rw [up_ne hc, up_ne hc], Or.inl ⟨rfl, fun t' z1 z2 => by dsimp only at z1; omega⟩⟩
  rintro X ⟨t, g⟩ ⟨⟨t0, t1⟩, e, hI⟩ hX
  dsimp only at t0 t1 e hI ⊢
  unfold wp_X3_find_B46 wp_X3_find_J95
  have e50 : g 50 = g2 50 := e 50 (by decide)
  have e51 : g 51 = g2 51 := e 51 (by decide)
  have i2 : inR (g 49 2) := by
    rcases hI with z | z
    · exact inR_of (by omega) (by omega)
    · have := r1 (vp - g 49 3) (by omega) (by omega)
      have := r2 (vq - g 49 3) (by omega) (by omega)
      exact inR_of (by omega) (by omega)
  refine ⟨inR_of (by omega) (by omega), fun q1 => ?_, fun q1 => ⟨⟨by omega, by omega⟩, ⟨by omega, by omega⟩, ?_⟩⟩
  · rintro _ rfl
    rintro _ rfl
    have t9 : t = -1 := by omega
    subst t9
    rcases hI with z | ⟨z0, z1, z2, z3⟩
    · have := z.2 0 (by omega) (by omega)
      rw [Int.sub_zero, Int.sub_zero] at this
      omega
    · refine kk _ (g 49 3) (fun c c1 c2 c3 => ?_) ?_ ?_ ?_ ?_ ?_ ?_ ?_ ?_
      · rw [up_ne c1, up_ne c1, e c c1, a2 c c3, a1 c c2]
      · rw [up_ne (by decide), up_ne (by decide), e50]; exact fm1'
      · rw [up_ne (by decide), up_ne (by decide), e51]; exact fm2
      · rw [up_ne (k' := 50) (by decide), up_ne (k' := 50) (by decide), up_ne (k' := 51) (by decide), up_ne (k' := 51) (by decide), e50, e51]
        refine ⟨by omega, fun t' y0 y1 => ?_⟩
        have := z3 t' (by omega) y1
        dsimp only
        rw [← z2]
        exact this
      · rw [up_eq, if_neg (by decide), up_eq, if_neg (by decide)]
      · rw [up_ne (k' := 50) (by decide), up_ne (k' := 50) (by decide), up_ne (k' := 51) (by decide), up_ne (k' := 51) (by decide), e50, e51, ← z2]
        rw [up_eq, if_neg (by decide), up_eq, if_neg (by decide)]
      · rw [up_eq, if_neg (by decide), up_eq, if_neg (by decide)]; exact z0
      · rw [up_eq, if_neg (by decide), up_eq, if_pos rfl]
      · rw [up_eq, if_pos rfl, up_eq, if_neg (by decide)]
  · rw [e50, e51]
    have x1 := r1 (vp - t) (by omega) (by omega)
    have x2 := r2 (vq - t) (by omega) (by omega)
    rintro _ rfl
    have hlt : (t + -1 + 1).toNat < (t + 1).toNat := by omega
    refine ⟨inR_of (by omega) (by omega), i2, fun q2 => hX _ ⟨⟨by dsimp only; omega, by dsimp only; omega⟩, e, ?_⟩ hlt, fun q2 => ?_⟩
    · dsimp only
      rcases hI with ⟨z0, z1⟩ | ⟨z0, z1, z2, z3⟩
      · refine Or.inl ⟨z0, fun t' y0 y1 => ?_⟩
        by_cases y : t' = t
        · rw [y]; omega
        · exact z1 t' (by omega) y1
      · refine Or.inr ⟨z0, by omega, z2, fun t' y0 y1 => ?_⟩
        by_cases y : t' = t
        · rw [y]; exact ⟨q2, fun y2 => by omega⟩
        · exact z3 t' (by omega) y1
    · rintro _ rfl
      rintro _ rfl
      refine hX _ ⟨⟨by dsimp only; omega, by dsimp only; omega⟩, fun c hc => by dsimp only; rw [up_ne hc, up_ne hc, e c hc], ?_⟩ hlt
      dsimp only
      have u2 : ∀ x y, up (up g 49 2 x) 49 3 y 49 2 = x := fun x y => by rw [up_eq, if_neg (by decide), up_eq, if_pos rfl]
      have u3 : ∀ x y, up (up g 49 2 x) 49 3 y 49 3 = y := fun x y => by rw [up_eq, if_pos rfl]
      rw [u2, u3]
      have lt : g2 50 (vp - t) + g2 51 (vq - t) < 1000 := by
        rcases hI with z | z <;> omega
      refine Or.inr ⟨lt, by omega, rfl, fun t' y0 y1 => ?_⟩
      by_cases y : t' = t
      · rw [y]; exact ⟨by omega, fun y2 => by omega⟩
      · rcases hI with ⟨z0, z1⟩ | ⟨z0, z1, z2, z3⟩
        · have := z1 t' (by omega) y1
          exact ⟨by omega, fun _ => by omega⟩
        · have := (z3 t' (by omega) y1).1
          exact ⟨by omega, fun _ => by omega⟩
/-- what level answers: t the heaviness then, n1 and n2 as few things -/
def LVL (w f : Int → Int) (p q x t n1 n2 r : Int) : Prop := (x = 0 ∧ r = n1 + n2) ∨ (x = 1 ∧ r = t) ∨ ((2 ≤ x ∧ x < 6) ∧ ∃ k : Nat, FST w f p (hv w f p - t) n1 k ∧ r = dgt k (x - 2)) ∨ (6 ≤ x ∧ ∃ k : Nat, FST w f q (hv w f q - t) n2 k ∧ r = dgt k (x - 6))
theorem LVL.uniq {w f : Int → Int} {p q x t n1 n2 r r' : Int} (a : LVL w f p q x t n1 n2 r) (b : LVL w f p q x t n1 n2 r') : r = r' := by
  rcases a with a | a | ⟨a, k, a1, a2⟩ | ⟨a, k, a1, a2⟩ <;> rcases b with b | b | ⟨b, k', b1, b2⟩ | ⟨b, k', b1, b2⟩ <;> first | omega | (rw [a2, b2, a1.uniq b1])
theorem spM_level {x y z n : Int} {w f : Int → Int} {h : aH} {Q : Int → aH → Prop} (hx : inR x) (hy : inR y) (hz : inR z) (hn : 0 ≤ n ∧ n ≤ 4) (e : h 61 0 = n) (hp : 0 ≤ x ∧ x < n) (hq : 0 ≤ y ∧ y < n) (hne : ¬ x = y) (hz2 : 0 ≤ z ∧ z ≤ 9) (hw : ∀ j, 0 ≤ j → j < 4 → h 62 j = w j ∧ 1 ≤ w j ∧ w j ≤ 20) (hf : ∀ j, 0 ≤ j → j < 16 → h 66 (1 + j) = f j ∧ 0 ≤ f j ∧ f j ≤ 9) (kk : ∀ (g : aH) (G1 G2 : Int → Int) (t r : Int), (∀ c, c ≠ 59 → c ≠ 78 → g c = h c) → g 59 = up h 59 0 0 59 → GR w f x G1 → GR w f y G2 → OPT (fun t => G1 t + G2 t) 720 t → LVL w f x y z t (G1 t) (G2 t) r → Q r g) : wp_X9_level x y z h Q := by
  unfold wp_X9_level
  rintro _ rfl
  refine sp_pairM hx hy hn (by rw [up_ne (by decide)]; exact e) (fun r1 hr1 => ⟨fun h0 => by omega, fun _ => sp_in2 hz inR0 (inR_of (by omega) (by omega)) (fun nq => absurd hz2 nq) (fun _ _ => ?_)⟩)
  have u : ∀ c, c ≠ 59 → up h 59 0 0 c = h c := fun c hc => up_ne hc
  refine spM_sheds (Or.inl rfl) (by omega) (w := w) (f := f) (by rw [u 62 (by decide)]; exact hw) (by rw [u 66 (by decide)]; exact hf) (fun g1 a1 b1 gr1 => ?_)
  refine spM_sheds (Or.inr rfl) (by omega) (w := w) (f := f) (by rw [a1 62 (by decide), u 62 (by decide)]; exact hw) (by rw [a1 66 (by decide), u 66 (by decide)]; exact hf) (fun g2 a2 b2 gr2 => ?_)
  have hwb : ∀ j, 0 ≤ j → j < 4 → 1 ≤ w j ∧ w j ≤ 20 := fun j a b => (hw j a b).2
  have hfb : ∀ j, 0 ≤ j → j < 16 → 0 ≤ f j ∧ f j ≤ 9 := fun j a b => (hf j a b).2
  have gr1' : GR w f x (g2 78) := fun t t0 t1 => by
    have z := gr1 t t0 t1
    dsimp only at z
    rw [Int.zero_add, ← b2 t (by omega)] at z
    exact z
  have R1 : ∀ t, 0 ≤ t → t ≤ 720 → 0 ≤ g2 78 t ∧ g2 78 t ≤ 1000000 := fun t t0 t1 => by
    rcases gr1' t t0 t1 with z | z <;> omega
  have R2 : ∀ t, 0 ≤ t → t ≤ 720 → 0 ≤ g2 78 (721 + t) ∧ g2 78 (721 + t) ≤ 1000000 := fun t t0 t1 => by
    rcases gr2 t t0 t1 with z | z <;> (dsimp only at z; omega)
  have o0 : 0 ≤ g2 78 0 + g2 78 721 ∧ g2 78 0 + g2 78 721 ≤ 72 := by
    have z1 := gr1' 0 (by omega) (by omega)
    have z2 := gr2 0 (by omega) (by omega)
    dsimp only at z2
    rw [Int.sub_zero] at z1 z2
    rcases z1 with z1 | z1
    · exact absurd (RR_all (by omega) hfb) (z1.2 _)
    · rcases z2 with z2 | z2
      · exact absurd (RR_all (by omega) hfb) (z2.2 _)
      · have := z1.2.1; have := z2.2.1; rw [Int.add_zero] at this; omega
  refine lp.rule (μ := fun z => (722 - z.2).toNat) (I := fun z => (0 ≤ z.2 ∧ z.2 ≤ 721) ∧ (0 ≤ z.1 ∧ z.1 ≤ 720) ∧ (z.2 = 0 → z.1 = 0) ∧ (0 < z.2 → z.1 < z.2) ∧ ∀ t', 0 ≤ t' → t' < z.2 → g2 78 z.1 + g2 78 (721 + z.1) ≤ g2 78 t' + g2 78 (721 + t') ∧ (z.1 < t' → g2 78 z.1 + g2 78 (721 + z.1) < g2 78 t' + g2 78 (721 + t'))) ?_ (0, 0) ⟨⟨by dsimp only; omega, by dsimp only; omega⟩, ⟨by dsimp only; omega, by dsimp only; omega⟩, fun _ => rfl, fun z => by dsimp only at z; omega, fun t' y0 y1 => by dsimp only at y1; omega⟩
  rintro X ⟨s, t⟩ ⟨⟨t0, t1⟩, ⟨s0, s1⟩, hs0, hs1, hI⟩ hX
  dsimp only at t0 t1 s0 s1 hs0 hs1 hI ⊢
  unfold wp_X9_level_B46
  have q1 := R1 s s0 s1
  have q2 := R2 s s0 s1
  refine ⟨inR_of (by omega) (by omega), fun q => ⟨hz, ?_⟩, fun q => ⟨⟨by omega, by omega⟩, ⟨by omega, by omega⟩, ⟨by omega, by omega⟩, ⟨by omega, by omega⟩, ?_⟩⟩
  · have K := kk g2 (g2 78) (fun t => g2 78 (721 + t)) s
    have c1 : ∀ c, c ≠ 59 → c ≠ 78 → g2 c = h c := fun c h1 h2 => by rw [a2 c h2, a1 c h2, u c h1]
    have c2 : g2 59 = up h 59 0 0 59 := by rw [a2 59 (by decide), a1 59 (by decide)]
    have opt : OPT (fun t => g2 78 t + g2 78 (721 + t)) 720 s := ⟨⟨s0, s1⟩, fun t' y0 y1 => hI t' y0 (by omega)⟩
    have ob := (opt.2 0 (by omega) (by omega)).1
    dsimp only at ob
    rw [Int.add_zero] at ob
    have rr1 : RR w (hdC f x) (hv w f x - s) (g2 78 s) := by
      rcases gr1' s s0 s1 with z | z
      · omega
      · exact z.1
    have rr2 : RR w (hdC f y) (hv w f y - s) (g2 78 (721 + s)) := by
      rcases gr2 s s0 s1 with z | z
      · dsimp only at z; omega
      · exact z.1
    have w2 : ∀ j, 0 ≤ j → j < 4 → g2 62 j = w j ∧ 1 ≤ w j ∧ w j ≤ 20 := by rw [c1 62 (by decide) (by decide)]; exact hw
    have f2 : ∀ j, 0 ≤ j → j < 16 → g2 66 (1 + j) = f j ∧ 0 ≤ f j ∧ f j ≤ 9 := by rw [c1 66 (by decide) (by decide)]; exact hf
    have J : ∀ k : Nat, k < 10000 → Q (dgt k ((z - 2) % 4)) g2 → 2 ≤ z → wp_X9_level_J185 z Q g2 k := fun k hk hQ h2 => by
      unfold wp_X9_level_J185
      refine ⟨⟨by omega, by omega⟩, ?_⟩
      rintro _ rfl
      unfold dgt at hQ
      refine ⟨inR_of (by omega) (by omega), fun y => ⟨⟨by omega, by omega⟩, ?_⟩, fun y => ⟨fun y2 => ⟨⟨by omega, by omega⟩, ⟨by omega, by omega⟩, ?_⟩, fun y2 => ⟨fun y3 => ⟨⟨by omega, by omega⟩, ⟨by omega, by omega⟩, ?_⟩, fun y3 => ⟨⟨by omega, by omega⟩, ?_⟩⟩⟩⟩
      · rw [if_pos y] at hQ; exact hQ
      · rw [if_neg y, if_pos y2] at hQ; exact hQ
      · rw [if_neg y, if_neg y2, if_pos y3] at hQ; exact hQ
      · rw [if_neg y, if_neg y2, if_neg y3] at hQ; exact hQ
    refine ⟨fun z2 => ⟨fun z6 => ⟨⟨by omega, by omega⟩, spM_wayOf (by omega) ⟨s0, s1⟩ ⟨by omega, by omega⟩ w2 f2 rr2 (fun k hk => J k hk.1 (K _ c1 c2 gr1' gr2 opt (Or.inr (Or.inr (Or.inr ⟨z6, k, hk, ?_⟩)))) z2)⟩, fun z6 => ⟨⟨by omega, by omega⟩, spM_wayOf (by omega) ⟨s0, s1⟩ ⟨by omega, by omega⟩ w2 f2 rr1 (fun k hk => J k hk.1 (K _ c1 c2 gr1' gr2 opt (Or.inr (Or.inr (Or.inl ⟨by omega, k, hk, ?_⟩)))) z2)⟩⟩, fun z2 => ⟨⟨fun z3 => ⟨⟨by omega, by omega⟩, ⟨by omega, by omega⟩, trivial⟩, fun _ => trivial⟩, K _ c1 c2 gr1' gr2 opt ?_⟩⟩
    · rw [show (z - 2) % 4 = z - 6 by omega]
    · rw [show (z - 2) % 4 = z - 2 by omega]
    · by_cases z3 : z = 0
      · rw [if_pos z3]; exact Or.inl ⟨z3, rfl⟩
      · rw [if_neg z3]; exact Or.inr (Or.inl ⟨by omega, rfl⟩)
  · have q3 := R1 t t0 (by omega)
    have q4 := R2 t t0 (by omega)
    refine ⟨⟨inR_of (by omega) (by omega), inR_of (by omega) (by omega), trivial⟩, ?_⟩
    rintro _ rfl
    have hlt : (722 - (t + 1)).toNat < (722 - t).toNat := by omega
    by_cases y : g2 78 s + g2 78 (721 + s) < g2 78 t + g2 78 (721 + t)
    · rw [if_pos y]
      have t9 : ¬ t = 0 := fun z => by rw [hs0 z, z] at y; omega
      refine hX _ ⟨⟨by dsimp only; omega, by dsimp only; omega⟩, ⟨s0, s1⟩, fun z => by dsimp only at z; omega, fun _ => by dsimp only; have := hs1 (by omega); omega, fun t' y0 y1 => ?_⟩ hlt
      dsimp only at y1 ⊢
      by_cases e2 : t' = t
      · rw [e2]; exact ⟨by omega, fun _ => y⟩
      · exact hI t' y0 (by omega)
    · rw [if_neg y]
      refine hX _ ⟨⟨by dsimp only; omega, by dsimp only; omega⟩, ⟨by dsimp only; omega, by dsimp only; omega⟩, fun z => by dsimp only at z; omega, fun _ => by dsimp only; omega, fun t' y0 y1 => ?_⟩ hlt
      dsimp only at y1 ⊢
      by_cases e2 : t' = t
      · rw [e2]; exact ⟨by omega, fun z => by omega⟩
      · have := (hI t' y0 (by omega)).1
        exact ⟨by omega, fun z => by omega⟩
theorem S_level {c x y z : Int} {h : aH} {K : aH → Prop} (i : Inv c h) (hx : inR x) (hy : inR y) (hz : inR z) (hK : ∀ h', Inv (c + 1) h' → K h') : wp_X8_level x y z h (fun r h1 => wp_X9_level x y z h1 (fun r2 h2 => inR r ∧ inR r2 ∧ ((r = r2 → K h2) ∧ (¬ r = r2 → False)))) := by
  obtain ⟨hn, hp, e1, e2, hw, hg, hb⟩ := i.2.1
  have bad : ¬ (((0 ≤ x ∧ x < h 3 4) ∧ (0 ≤ y ∧ y < h 3 4) ∧ ¬ x = y) ∧ 0 ≤ z ∧ z ≤ 9) → wp_X9_level x y z h (fun r2 h2 => inR (-1) ∧ inR r2 ∧ ((-1 = r2 → K h2) ∧ (¬ -1 = r2 → False))) := by
    intro nq
    unfold wp_X9_level
    rintro _ rfl
    exact sp_pairM hx hy hn (by rw [up_ne (by decide)]; exact e1) (fun r hr => ⟨fun _ => fin_ok rfl (inR_of (by omega) (by omega)) (hK _ i.thr), fun _ => sp_in2 hz inR0 (inR_of (by omega) (by omega)) (fun _ => fin_ok rfl (inR_of (by omega) (by omega)) (hK _ i.thr)) (fun a b => by omega)⟩)
  unfold wp_X8_level
  refine sp_pair hx hy hn (fun r1 hr1 => ⟨fun h0 => bad (by omega), fun h0 => sp_within2 hz inR0 (inR_of (by omega) (by omega)) (fun nq => bad (by omega)) (fun z0 z1 => ?_)⟩)
  have hwc : ∀ j, 0 ≤ j → j < 4 → 1 ≤ h 4 j ∧ h 4 j ≤ 20 := fun j h0 h1 => (hw j h0 h1).2
  refine sp_find (by omega) (by omega) hwc i.held (fun g t a fm1 fm2 opt t3 t2 t2b t4 t5 => ?_)
  have ib : Inv c g := i.fr (by omega) (fun k _ _ _ _ k49 k50 k51 _ _ => a k k49 k50 k51) (by rw [a 1 (by decide) (by decide) (by decide)]) (by rw [a 59 (by decide) (by decide) (by decide)]) (by rw [a 59 (by decide) (by decide) (by decide)]) (by rw [a 59 (by decide) (by decide) (by decide)]) (by rw [a 59 (by decide) (by decide) (by decide)]) (by rw [a 59 (by decide) (by decide) (by decide)])
  have ga : ∀ c, c ≠ 49 → c ≠ 50 → c ≠ 51 → g c = h c := a
  have bp := i.hvB (p := x) (by omega)
  have bq := i.hvB (p := y) (by omega)
  have ot := opt.1
  have x1 := fm1.rng (v := hv (h 4) (h 14) x - t) (by omega) (by omega)
  have x2 := fm2.rng (v := hv (h 4) (h 14) y - t) (by omega) (by omega)
  have rr1 : RR (h 4) (hdC (h 14) x) (hv (h 4) (h 14) x - t) (g 50 (hv (h 4) (h 14) x - t)) ∧ g 50 (hv (h 4) (h 14) x - t) ≤ 36 := by
    rcases fm1 (hv (h 4) (h 14) x - t) (by omega) (by omega) with q | q
    · omega
    · exact ⟨q.1, q.2.1.2⟩
  have rr2 : RR (h 4) (hdC (h 14) y) (hv (h 4) (h 14) y - t) (g 51 (hv (h 4) (h 14) y - t)) ∧ g 51 (hv (h 4) (h 14) y - t) ≤ 36 := by
    rcases fm2 (hv (h 4) (h 14) y - t) (by omega) (by omega) with q | q
    · omega
    · exact ⟨q.1, q.2.1.2⟩
  have ref : ∀ r, inR r → LVL (h 4) (h 14) x y z t (g 50 (hv (h 4) (h 14) x - t)) (g 51 (hv (h 4) (h 14) y - t)) r → wp_X9_level x y z g (fun r2 h2 => inR r ∧ inR r2 ∧ ((r = r2 → K h2) ∧ (¬ r = r2 → False))) := by
    intro r hr hl
    refine spM_level hx hy hz hn (by rw [ga 61 (by decide) (by decide) (by decide)]; exact e1) (by omega) (by omega) (by omega) ⟨z0, z1⟩ (w := h 4) (f := h 14) (by rw [ga 62 (by decide) (by decide) (by decide)]; exact hw) (by rw [ga 66 (by decide) (by decide) (by decide)]; exact i.2.2.1.2.2.1) (fun g' G1 G2 t' r' b1 b2 gr1 gr2 opt' hl' => ?_)
    have f1 := fun t (ht : 0 ≤ t ∧ t ≤ 720) => FG (t := t) (p := x) (by omega) hwc i.held fm1 gr1 ht
    have f2 := fun t (ht : 0 ≤ t ∧ t ≤ 720) => FG (t := t) (p := y) (by omega) hwc i.held fm2 gr2 ht
    have p1 : OPT (fun t => G1 t + G2 t) 720 t := by
      refine ⟨by omega, fun s s0 s1 => ?_⟩
      have y1 := f1 t (by omega)
      have y2 := f2 t (by omega)
      have y3 := f1 s (by omega)
      have y4 := f2 s (by omega)
      dsimp only
      have u1 : G1 t = g 50 (hv (h 4) (h 14) x - t) := by
        rcases y1 with q | q
        · exact q.2.1.symm
        · have := q.2 (by omega); omega
      have u2 : G2 t = g 51 (hv (h 4) (h 14) y - t) := by
        rcases y2 with q | q
        · exact q.2.1.symm
        · have := q.2 (by omega); omega
      rw [u1, u2]
      rcases y3 with ⟨q1, q2, q3, q4⟩ | q
      · rcases y4 with ⟨q5, q6, q7, q8⟩ | q
        · rw [← q2, ← q6]
          exact opt.2 s s0 (by omega)
        · exact ⟨by omega, fun _ => by omega⟩
      · have : 0 ≤ G2 s := by rcases y4 with q' | q' <;> omega
        exact ⟨by omega, fun _ => by omega⟩
    have et := opt'.uniq p1
    subst et
    have u1 : G1 t' = g 50 (hv (h 4) (h 14) x - t') := by
      rcases f1 t' (by omega) with q | q
      · exact q.2.1.symm
      · have := q.2 (by omega); omega
    have u2 : G2 t' = g 51 (hv (h 4) (h 14) y - t') := by
      rcases f2 t' (by omega) with q | q
      · exact q.2.1.symm
      · have := q.2 (by omega); omega
    rw [u1, u2] at hl'
    refine fin_ok (hl.uniq hl') hr (hK _ (ib.fr (by omega) (fun k k59 _ _ _ _ _ _ k78 _ => b1 k k59 k78) (by rw [b1 1 (by decide) (by decide)]) ?_ ?_ ?_ ?_ ?_)) <;> (rw [b2]; exact thr59 (by decide))
  have dg : ∀ k j : Int, 0 ≤ k → k < 10000 → inR (dgt k j) := fun k j k0 k1 => by
    unfold dgt
    split
    · exact inR_of (by omega) (by omega)
    · split
      · exact inR_of (by omega) (by omega)
      · split <;> exact inR_of (by omega) (by omega)
  refine ⟨hz, fun q => ref _ (inR_of (by omega) (by omega)) (Or.inl ⟨q, t2⟩), fun q => ⟨fun q2 => ref _ (inR_of (by omega) (by omega)) (Or.inr (Or.inl ⟨q2, t3⟩)), fun q2 => ⟨fun q3 => ?_, fun q3 => ?_⟩⟩⟩
  · unfold wp_X3_secondSays
    rw [t5]
    refine ⟨⟨by omega, by omega⟩, sp_firstWay (by omega) (by omega) (by omega) (by rw [ga 4 (by decide) (by decide) (by decide)]; exact hwc) (by rw [ga 14 (by decide) (by decide) (by decide)]; exact i.held) (by rw [ga 4 (by decide) (by decide) (by decide), ga 14 (by decide) (by decide) (by decide)]; exact rr2.1) (fun k hk => sp_figureOf ⟨by omega, by have := hk.1; omega⟩ (by omega) (ref _ (dg _ _ (by omega) (by have := hk.1; omega)) (Or.inr (Or.inr (Or.inr ⟨q3, k, ?_, rfl⟩)))))⟩
    rw [ga 4 (by decide) (by decide) (by decide), ga 14 (by decide) (by decide) (by decide)] at hk
    exact hk
  · unfold wp_X3_firstSays
    rw [t4]
    refine ⟨⟨by omega, by omega⟩, sp_firstWay (by omega) (by omega) (by omega) (by rw [ga 4 (by decide) (by decide) (by decide)]; exact hwc) (by rw [ga 14 (by decide) (by decide) (by decide)]; exact i.held) (by rw [ga 4 (by decide) (by decide) (by decide), ga 14 (by decide) (by decide) (by decide)]; exact rr1.1) (fun k hk => sp_figureOf ⟨by omega, by have := hk.1; omega⟩ (by omega) (ref _ (dg _ _ (by omega) (by have := hk.1; omega)) (Or.inr (Or.inr (Or.inl ⟨by omega, k, ?_, rfl⟩)))))⟩
    rw [ga 4 (by decide) (by decide) (by decide), ga 14 (by decide) (by decide) (by decide)] at hk
    exact hk
