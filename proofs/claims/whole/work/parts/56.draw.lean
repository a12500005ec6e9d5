-- the drawer laid out, its range
theorem sp_weigh {p a : Nat} {h : aH} {Q : Int → Prop} (hp : p ≤ 5) (e : h 3 5 = p) (ha : a < 2147483648) (k : Q (psum p (h 7) a)) : wp_X0_weigh a h Q := by
  unfold wp_X0_weigh
  refine lp.rule (μ := fun y => (7 - y.2).toNat) (I := fun y => (0 ≤ y.2 ∧ y.2 ≤ (p : Int)) ∧ y.1 = psum y.2.toNat (h 7) a) ?_ (0, 0) ⟨⟨by omega, by dsimp only; omega⟩, rfl⟩
  rintro X ⟨s, t⟩ ⟨⟨t0, t1⟩, hs⟩ hX
  dsimp only at t0 t1 hs ⊢
  unfold wp_X0_weigh_B4
  obtain ⟨u, rfl⟩ : ∃ u : Nat, t = (u : Int) := ⟨t.toNat, by omega⟩
  rw [show ((u : Nat) : Int).toNat = u by omega] at hs
  rw [e, bit_b ha (by omega)]
  refine ⟨inR_of (by omega) (by omega), inR_of (by omega) (by omega), fun q => ?_, fun q => ⟨⟨inR_of (by omega) (by omega), fun _ => ⟨⟨by omega, by omega⟩, trivial⟩, fun _ => trivial⟩, hX _ ⟨⟨by dsimp only; omega, by dsimp only; omega⟩, ?_⟩ (by dsimp only; omega)⟩⟩
  · rw [hs, show u = p by omega]; exact k
  · dsimp only
    rw [show ((u : Int) + 1).toNat = u + 1 by omega, psum_s, hs]
    by_cases q2 : a / 2 ^ u % 2 = 1
    · rw [if_pos (by omega), if_pos q2]
    · rw [if_neg (by omega), if_neg q2]; omega
theorem way_all : (List.range 32).all (fun a => (List.range 32).all (fun b => bor (bshl a 5) b == ((32 * a + b : Nat) : Int))) = true := by decide +kernel
theorem way_e {a b : Nat} (ha : a < 32) (hb : b < 32) : bor (bshl a 5) b = ((32 * a + b : Nat) : Int) := eq_of_beq (List.all_eq_true.mp (List.all_eq_true.mp way_all a (List.mem_range.mpr ha)) b (List.mem_range.mpr hb))
theorem bst_yes {pc : Nat} {b : Int → Int} {v : Int} {k : Nat} (h : wayOk pc b v k = true) : ¬ bst pc b v (k + 1) = -9 := by
  rw [bst_s, h]
  by_cases q : bst pc b v k = -9
  · rw [if_pos (by simp [q])]; omega
  · split
    · omega
    · exact q
theorem sp_offerB {p a d : Nat} {b : Int → Int} {h : aH} {Q : aH → Prop} (hp : p ≤ 5) (ha : a < 2 ^ p) (hd : d < 2 ^ p) (had : a &&& d = 0) (hb : ∀ i : Int, 0 ≤ i → i < p → 1 ≤ b i ∧ b i ≤ 60) (h1 : h 47 a = psum p b a) (h2 : h 47 d = psum p b d) (h3 : ∀ v, 0 ≤ v → v ≤ 300 → h 48 v = bst p b v (32 * a + d)) (kk : ∀ g, (∀ c, c ≠ 48 → g c = h c) → (∀ v, 0 ≤ v → v ≤ 300 → g 48 v = bst p b v (32 * a + d + 1)) → Q g) : wp_X0_offer a d h Q := by
  have p32 := pow_le5 hp
  have ea : (32 * a + d) / 32 = a := by omega
  have ed : (32 * a + d) % 32 = d := by omega
  have wk := fun v => wayOk_iff (pc := p) (b := b) (v := v) (k := 32 * a + d)
  simp only [ea, ed] at wk
  have pb1 := psum_bd (a := a) (p := p) (b := b) hb
  have pb2 := psum_bd (a := d) (p := p) (b := b) hb
  have no : ∀ v, v ≠ psum p b a - psum p b d → bst p b v (32 * a + d + 1) = bst p b v (32 * a + d) := fun v hv' => bst_no (by
    rw [← Bool.not_eq_true, wk]
    exact fun z => hv' z.2.2.2.symm)
  unfold wp_X0_offer
  refine ⟨⟨by omega, by omega⟩, ⟨by omega, by omega⟩, ?_⟩
  rw [h1, h2]
  rintro _ rfl
  refine sp_within2 (inR_of (by omega) (by omega)) inR0 (inR_of (by omega) (by omega)) (fun q => kk h (fun _ _ => rfl) (fun v v0 v1 => ?_)) (fun q0 q1 => ?_)
  · rw [no v (by omega)]; exact h3 v v0 v1
  rw [way_e (by omega) (by omega)]
  rintro _ rfl
  have wt : wayOk p b (psum p b a - psum p b d) (32 * a + d) = true := (wk _).mpr ⟨ha, hd, had, rfl⟩
  have hv3 := h3 _ q0 q1
  have nv := fun v => no v
  generalize psum p b a - psum p b d = v at *
  have rg := bst_rng (pc := p) (b := b) (v := v) (k := 32 * a + d)
  have bs := bst_s (pc := p) (b := b) (v := v) (k := 32 * a + d)
  rw [wt, ea, ed] at bs
  have upd : bst p b v (32 * a + d + 1) = ((32 * a + d : Nat) : Int) → Q (up h 48 v ((32 * a + d : Nat) : Int)) := fun e => kk _ (fun c hc => up_ne hc) (fun w w0 w1 => by
    rw [up_eq]
    by_cases q : w = v
    · rw [if_pos q, q, e]
    · rw [if_neg q, nv w q]; exact h3 w w0 w1)
  unfold wp_X0_canWeigh wp_X0_fewestPieces
  refine ⟨⟨by omega, by omega⟩, ⟨by rw [hv3]; exact inR_of (by omega) (by omega), trivial⟩, fun q => ⟨⟨by omega, by omega⟩, ?_⟩, fun q => sp_bitCount (by omega) ⟨⟨by omega, by omega⟩, ?_⟩⟩
  · rintro _ rfl
    refine upd ?_
    have q2 : bst p b v (32 * a + d) = -9 := by
      rw [← hv3]
      by_cases z : h 48 v = -9
      · exact z
      · rw [if_neg z] at q; omega
    rw [bs, if_pos (by simp [q2])]
  · have q2 : ¬ bst p b v (32 * a + d) = -9 := fun z => by rw [hv3, if_pos z] at q; exact q rfl
    rw [hv3]
    obtain ⟨m, em⟩ : ∃ m : Nat, bst p b v (32 * a + d) = (m : Int) := ⟨(bst p b v (32 * a + d)).toNat, by omega⟩
    rw [em] at bs rg q2 hv3 ⊢
    rw [show ((m : Nat) : Int).toNat = m by omega] at bs
    rw [ea, ed]
    refine sp_bitCount (by omega) ?_
    have l1 := bits5_le a
    have l2 := bits5_le d
    have l3 := bits5_le (m / 32)
    have l4 := bits5_le (m % 32)
    refine ⟨inR_of (by omega) (by omega), inR_of (by omega) (by omega), fun z => kk h (fun _ _ => rfl) (fun w w0 w1 => ?_), fun z => ⟨⟨by omega, by omega⟩, ?_⟩⟩
    · by_cases q3 : w = v
      · rw [q3, hv3, bs, if_neg (by simp [q2]; omega)]
      · rw [nv w q3]; exact h3 w w0 w1
    · rintro _ rfl
      refine upd ?_
      rw [bs, if_pos ?_]
      rw [Bool.true_and, Bool.or_eq_true]
      exact Or.inr (decide_eq_true (by omega))
theorem sp_layOut {p : Nat} {h : aH} {Q : aH → Prop} (hp : p ≤ 5) (e : h 3 5 = p) (hb : ∀ i : Int, 0 ≤ i → i < p → 1 ≤ h 7 i ∧ h 7 i ≤ 60) (kk : ∀ g, (∀ c, c ≠ 47 → c ≠ 48 → g c = h c) → DRAW (p : Int) (h 7) (g 48) → Q g) : wp_X0_layOut h Q := by
  have p32 := pow_le5 hp
  unfold wp_X0_layOut
  rw [e, bshl_1 hp]
  rintro _ rfl
  refine lp.rule (μ := fun y => (33 - y.1).toNat) (I := fun y => (0 ≤ y.1 ∧ y.1 ≤ ((2 ^ p : Nat) : Int)) ∧ (∀ c, c ≠ 47 → y.2 c = h c) ∧ ∀ a : Nat, (a : Int) < y.1 → y.2 47 a = psum p (h 7) a) ?_ (0, h) ⟨⟨by dsimp only; omega, Int.natCast_nonneg _⟩, fun _ _ => rfl, fun a z => by dsimp only at z; omega⟩
  rintro X ⟨t, g⟩ ⟨⟨t0, t1⟩, g1, g2⟩ hX
  dsimp only at t0 t1 g1 g2 ⊢
  unfold wp_X0_layOut_B9
  obtain ⟨u, rfl⟩ : ∃ u : Nat, t = (u : Int) := ⟨t.toNat, by omega⟩
  refine ⟨inR_of (by omega) (by omega), inR_of (by omega) (by omega), fun q => ?_, fun q => sp_weigh hp (by rw [g1 3 (by decide)]; exact e) (by omega) ⟨⟨by omega, by omega⟩, ?_⟩⟩
  · refine sp_fill (by decide) (fun g' f1 f2 => ?_)
    have k47 : ∀ a : Nat, a < 2 ^ p → g' 47 a = psum p (h 7) a := fun a ha => by rw [f1 47 (by decide)]; exact g2 a (by omega)
    have kc : ∀ c, c ≠ 47 → c ≠ 48 → g' c = h c := fun c c1 c2 => by rw [f1 c c2, g1 c c1]
    refine lp.rule (μ := fun y => (33 - y.1).toNat) (I := fun y => (0 ≤ y.1 ∧ y.1 ≤ ((2 ^ p : Nat) : Int)) ∧ (∀ c, c ≠ 48 → y.2 c = g' c) ∧ ∀ v, 0 ≤ v → v ≤ 300 → y.2 48 v = bst p (h 7) v (32 * y.1.toNat)) ?_ (0, g') ⟨⟨by dsimp only; omega, Int.natCast_nonneg _⟩, fun _ _ => rfl, fun v v0 v1 => f2 v v0 (by show v < 301; omega)⟩
    rintro X2 ⟨t2, i⟩ ⟨⟨a0, a1⟩, i1, i2⟩ hX2
    dsimp only at a0 a1 i1 i2 ⊢
    unfold wp_X0_layOut_B42
    obtain ⟨a, rfl⟩ : ∃ a : Nat, t2 = (a : Int) := ⟨t2.toNat, by omega⟩
    rw [show ((a : Nat) : Int).toNat = a by omega] at i2
    refine ⟨inR_of (by omega) (by omega), fun q2 => kk i (fun c c1 c2 => by rw [i1 c c2, kc c c1 c2]) (fun v v0 v1 => ?_), fun q2 => ?_⟩
    · rw [i2 v v0 v1, show ((p : Nat) : Int).toNat = p by omega]
      have ea : a = 2 ^ p := by omega
      have := bst_skip (pc := p) (b := h 7) (v := v) (k := 32 * a) (d := 1024 - 32 * a) (fun j hj => by
        rw [← Bool.not_eq_true, wayOk_iff]
        intro z
        have := z.1
        omega)
      rw [show 32 * a + (1024 - 32 * a) = 1024 by omega] at this
      exact this.symm
    · refine lp.rule (μ := fun y => (33 - y.1).toNat) (I := fun y => (0 ≤ y.1 ∧ y.1 ≤ ((2 ^ p : Nat) : Int)) ∧ (∀ c, c ≠ 48 → y.2 c = g' c) ∧ ∀ v, 0 ≤ v → v ≤ 300 → y.2 48 v = bst p (h 7) v (32 * a + y.1.toNat)) ?_ (0, i) ⟨⟨by dsimp only; omega, by dsimp only; omega⟩, i1, i2⟩
      rintro X3 ⟨t3, j⟩ ⟨⟨d0, d1⟩, j1, j2⟩ hX3
      dsimp only at d0 d1 j1 j2 ⊢
      unfold wp_X0_layOut_B50 wp_X0_layOut_J70
      obtain ⟨d, rfl⟩ : ∃ d : Nat, t3 = (d : Int) := ⟨t3.toNat, by omega⟩
      rw [show ((d : Nat) : Int).toNat = d by omega] at j2
      refine ⟨inR_of (by omega) (by omega), fun q3 => hX2 _ ⟨⟨by dsimp only; omega, by dsimp only; omega⟩, j1, fun v v0 v1 => ?_⟩ (by dsimp only; omega), fun q3 => ?_⟩
      · dsimp only
        rw [j2 v v0 v1, show ((a : Int) + 1).toNat = a + 1 by omega]
        have := bst_skip (pc := p) (b := h 7) (v := v) (k := 32 * a + d) (d := 32 - d) (fun j hj => by
          rw [← Bool.not_eq_true, wayOk_iff]
          intro z
          have := z.2.1
          omega)
        rw [show 32 * a + d + (32 - d) = 32 * (a + 1) by omega] at this
        exact this.symm
      · rw [band_n (by omega) (by omega)]
        have ale : a &&& d ≤ a := Nat.and_le_left
        refine ⟨inR_of (by omega) (by omega), fun q4 => sp_offerB hp (by omega) (by omega) (by omega) hb (by rw [j1 47 (by decide)]; exact k47 a (by omega)) (by rw [j1 47 (by decide)]; exact k47 d (by omega)) j2 (fun g4 k1 k2 => hX3 _ ⟨⟨by dsimp only; omega, by dsimp only; omega⟩, fun c hc => by dsimp only; rw [k1 c hc, j1 c hc], fun v v0 v1 => ?_⟩ (by dsimp only; omega)), fun q4 => hX3 _ ⟨⟨by dsimp only; omega, by dsimp only; omega⟩, j1, fun v v0 v1 => ?_⟩ (by dsimp only; omega)⟩
        · dsimp only
          rw [k2 v v0 v1, show ((d : Int) + 1).toNat = d + 1 by omega, Nat.add_assoc]
        · dsimp only
          rw [j2 v v0 v1, show ((d : Int) + 1).toNat = d + 1 by omega, ← Nat.add_assoc, bst_no]
          rw [← Bool.not_eq_true, wayOk_iff, show (32 * a + d) / 32 = a by omega, show (32 * a + d) % 32 = d by omega]
          intro z
          have := z.2.2.1
          omega
  · rintro _ rfl
    refine hX _ ⟨⟨by dsimp only; omega, by dsimp only; omega⟩, fun c hc => by dsimp only; rw [up_ne hc, g1 c hc], fun a ha => ?_⟩ (by dsimp only; omega)
    dsimp only at ha ⊢
    rw [up_eq, g1 7 (by decide)]
    by_cases z : a = u
    · rw [z, if_pos rfl]
    · rw [if_neg (by omega)]; exact g2 a (by omega)
def RNG (p : Nat) (b : Int → Int) (r : Int) : Prop := (0 ≤ r ∧ r ≤ 300) ∧ (∀ v, 1 ≤ v → v ≤ r → ¬ bst p b v 1024 = -9) ∧ (r = 300 ∨ bst p b (r + 1) 1024 = -9)
theorem RNG.uniq {p : Nat} {b : Int → Int} {r r' : Int} (a : RNG p b r) (c : RNG p b r') : r = r' := by
  obtain ⟨a1, a2, a3⟩ := a
  obtain ⟨c1, c2, c3⟩ := c
  by_cases q : r < r'
  · have := c2 (r + 1) (by omega) (by omega)
    rcases a3 with a3 | a3
    · omega
    · exact absurd a3 this
  · by_cases q2 : r' < r
    · have := a2 (r' + 1) (by omega) (by omega)
      rcases c3 with c3 | c3
      · omega
      · exact absurd c3 this
    · omega
theorem sp_range {p : Nat} {b : Int → Int} {h : aH} {Q : Int → Prop} (hd : DRAW (p : Int) b (h 48)) (kk : ∀ r, RNG p b r → Q r) : wp_X0_range h Q := by
  unfold wp_X0_range
  refine lp.rule (μ := fun y => (301 - y).toNat) (I := fun y => (0 ≤ y ∧ y ≤ 300) ∧ ∀ v, 1 ≤ v → v ≤ y → ¬ bst p b v 1024 = -9) ?_ 0 ⟨by omega, fun v v0 v1 => by omega⟩
  rintro X t ⟨t0, ht⟩ hX
  unfold wp_X0_range_B2
  refine ⟨inR_of (by omega) (by omega), fun q => kk t ⟨t0, ht, Or.inl (by omega)⟩, fun q => ?_⟩
  unfold wp_X0_canWeigh
  have e := hd (t + 1) (by omega) (by omega)
  rw [show ((p : Nat) : Int).toNat = p by omega] at e
  have rg := bst_rng (pc := p) (b := b) (v := t + 1) (k := 1024)
  rw [e]
  refine ⟨⟨by omega, by omega⟩, ⟨inR_of (by omega) (by omega), trivial⟩, fun q2 => kk t ⟨t0, ht, Or.inr ?_⟩, fun q2 => hX _ ⟨by omega, fun v v0 v1 => ?_⟩ (by omega)⟩
  · by_cases z : bst p b (t + 1) 1024 = -9
    · exact z
    · rw [if_neg z] at q2; omega
  · by_cases z : v = t + 1
    · rw [z]; intro z2; rw [if_pos z2] at q2; exact q2 rfl
    · exact ht v v0 (by omega)
theorem spM_range {p : Nat} {b : Int → Int} {h : aH} {Q : Int → aH → Prop} (hp : p ≤ 5) (e : h 61 1 = p) (hb : ∀ i : Int, 0 ≤ i → i < p → h 65 i = b i ∧ 1 ≤ b i ∧ b i ≤ 60) (kk : ∀ r g, (∀ c, c ≠ 79 → g c = h c) → RNG p b r → Q r g) : wp_X9_range h Q := by
  have p32 := pow_le5 hp
  unfold wp_X9_range
  refine lp.rule (μ := fun y => (302 - y.1).toNat) (I := fun y => (0 ≤ y.1 ∧ y.1 ≤ 301) ∧ (∀ c, c ≠ 79 → y.2 c = h c) ∧ ∀ v, 0 ≤ v → v < y.1 → y.2 79 v = 0) ?_ (0, h) ⟨⟨by dsimp only; omega, by dsimp only; omega⟩, fun _ _ => rfl, fun a z1 z => by dsimp only at z; omega⟩
  rintro X ⟨t, g⟩ ⟨⟨t0, t1⟩, g1, g2⟩ hX
  dsimp only at t0 t1 g1 g2 ⊢
  unfold wp_X9_range_B2
  refine ⟨inR_of (by omega) (by omega), fun q => ?_, fun q => ⟨⟨by omega, by omega⟩, ?_⟩⟩
  · refine lp.rule (μ := fun y => (33 - y.1).toNat) (I := fun y => (0 ≤ y.1 ∧ y.1 ≤ ((2 ^ p : Nat) : Int)) ∧ (∀ c, c ≠ 79 → y.2 c = h c) ∧ ∀ v, 1 ≤ v → v ≤ 300 → (y.2 79 v = 0 ∧ bst p b v (32 * y.1.toNat) = -9) ∨ (y.2 79 v = 1 ∧ ¬ bst p b v (32 * y.1.toNat) = -9)) ?_ (0, g) ⟨⟨by dsimp only; omega, Int.natCast_nonneg _⟩, g1, fun v v0 v1 => Or.inl ⟨g2 v (by omega) (by omega), rfl⟩⟩
    rintro X2 ⟨t2, i⟩ ⟨⟨a0, a1⟩, i1, i2⟩ hX2
    dsimp only at a0 a1 i1 i2 ⊢
    unfold wp_X9_range_B24
    obtain ⟨a, rfl⟩ : ∃ a : Nat, t2 = (a : Int) := ⟨t2.toNat, by omega⟩
    rw [show ((a : Nat) : Int).toNat = a by omega] at i2
    rw [i1 61 (by decide), e, bshl_1 hp]
    refine ⟨inR_of (by omega) (by omega), inR_of (by omega) (by omega), fun q2 => ?_, fun q2 => ?_⟩
    · have i3 : ∀ v, 1 ≤ v → v ≤ 300 → (i 79 v = 0 ∧ bst p b v 1024 = -9) ∨ (i 79 v = 1 ∧ ¬ bst p b v 1024 = -9) := fun v v0 v1 => by
        have := bst_skip (pc := p) (b := b) (v := v) (k := 32 * a) (d := 1024 - 32 * a) (fun j hj => by
          rw [← Bool.not_eq_true, wayOk_iff]
          intro z
          have := z.1
          omega)
        rw [show 32 * a + (1024 - 32 * a) = 1024 by omega] at this
        rw [this]
        exact i2 v v0 v1
      refine lp.rule (μ := fun y => (301 - y).toNat) (I := fun y => (0 ≤ y ∧ y ≤ 300) ∧ ∀ v, 1 ≤ v → v ≤ y → ¬ bst p b v 1024 = -9) ?_ 0 ⟨by omega, fun v v0 v1 => by omega⟩
      rintro X3 t3 ⟨r0, ht⟩ hX3
      unfold wp_X9_range_B101
      refine ⟨inR_of (by omega) (by omega), fun q3 => kk t3 i i1 ⟨r0, ht, Or.inl (by omega)⟩, fun q3 => ⟨⟨by omega, by omega⟩, ?_⟩⟩
      have z := i3 (t3 + 1) (by omega) (by omega)
      refine ⟨by rcases z with z | z <;> (rw [z.1]; exact inR_of (by omega) (by omega)), fun q4 => kk t3 i i1 ⟨r0, ht, Or.inr ?_⟩, fun q4 => hX3 _ ⟨by omega, fun v v0 v1 => ?_⟩ (by omega)⟩
      · rcases z with z | z
        · exact z.2
        · omega
      · by_cases y : v = t3 + 1
        · rw [y]
          rcases z with z | z
          · omega
          · exact z.2
        · exact ht v v0 (by omega)
    · refine lp.rule (μ := fun y => (33 - y.1).toNat) (I := fun y => (0 ≤ y.1 ∧ y.1 ≤ ((2 ^ p : Nat) : Int)) ∧ (∀ c, c ≠ 79 → y.2 c = h c) ∧ ∀ v, 1 ≤ v → v ≤ 300 → (y.2 79 v = 0 ∧ bst p b v (32 * a + y.1.toNat) = -9) ∨ (y.2 79 v = 1 ∧ ¬ bst p b v (32 * a + y.1.toNat) = -9)) ?_ (0, i) ⟨⟨by dsimp only; omega, by dsimp only; omega⟩, i1, i2⟩
      rintro X3 ⟨t3, j⟩ ⟨⟨d0, d1⟩, j1, j2⟩ hX3
      dsimp only at d0 d1 j1 j2 ⊢
      unfold wp_X9_range_B38
      obtain ⟨d, rfl⟩ : ∃ d : Nat, t3 = (d : Int) := ⟨t3.toNat, by omega⟩
      rw [show ((d : Nat) : Int).toNat = d by omega] at j2
      rw [j1 61 (by decide), e, bshl_1 hp]
      have e61 : j 61 1 = p := by rw [j1 61 (by decide), e]
      have eps : ∀ m, psum p (j 65) m = psum p b m := fun m => by
        rw [j1 65 (by decide)]
        exact psum_cong (fun i i0 i1 => (hb i i0 i1).1)
      have pb1 := psum_bd (a := a) (p := p) (b := b) (fun i i0 i1 => (hb i i0 i1).2)
      have pb2 := psum_bd (a := d) (p := p) (b := b) (fun i i0 i1 => (hb i i0 i1).2)
      refine ⟨inR_of (by omega) (by omega), inR_of (by omega) (by omega), fun q3 => hX2 _ ⟨⟨by dsimp only; omega, by dsimp only; omega⟩, j1, fun v v0 v1 => ?_⟩ (by dsimp only; omega), fun q3 => ?_⟩
      · dsimp only
        rw [show ((a : Int) + 1).toNat = a + 1 by omega]
        have := bst_skip (pc := p) (b := b) (v := v) (k := 32 * a + d) (d := 32 - d) (fun j hj => by
          rw [← Bool.not_eq_true, wayOk_iff]
          intro z
          have := z.2.1
          omega)
        rw [show 32 * a + d + (32 - d) = 32 * (a + 1) by omega] at this
        rw [this]
        exact j2 v v0 v1
      · have ea : (32 * a + d) / 32 = a := by omega
        have ed : (32 * a + d) % 32 = d := by omega
        have wk := fun v => wayOk_iff (pc := p) (b := b) (v := v) (k := 32 * a + d)
        simp only [ea, ed] at wk
        have J : ∀ s, (-300 ≤ s ∧ s ≤ 300) → (∀ v, 1 ≤ v → (wayOk p b v (32 * a + d) = true ↔ v = s)) → wp_X9_range_J71 X3 d j s := fun s hs hw => by
          unfold wp_X9_range_J71
          refine ⟨⟨inR_of (by omega) (by omega), trivial⟩, by split <;> omega, ?_⟩
          rintro _ rfl
          refine hX3 _ ⟨⟨by dsimp only; omega, by dsimp only; omega⟩, fun c hc => by dsimp only; rw [up_ne hc, j1 c hc], fun v v0 v1 => ?_⟩ (by dsimp only; omega)
          dsimp only
          rw [show ((d : Int) + 1).toNat = d + 1 by omega, ← Nat.add_assoc, up_eq]
          by_cases z : v = s
          · rw [if_pos (by rw [if_neg (by omega)]; exact z)]
            exact Or.inr ⟨rfl, bst_yes ((hw v v0).mpr z)⟩
          · rw [if_neg (by split <;> omega), bst_no (by rw [← Bool.not_eq_true, hw v v0]; exact z)]
            exact j2 v v0 v1
        rw [band_n (by omega) (by omega)]
        have ale : a &&& d ≤ a := Nat.and_le_left
        refine ⟨inR_of (by omega) (by omega), fun q4 => spM_sumOf hp e61 (by omega) (spM_sumOf hp e61 (by omega) ?_), fun q4 => J 0 (by omega) (fun v v0 => ?_)⟩
        · rw [eps, eps]
          refine J _ (by omega) (fun v v0 => ?_)
          rw [wk]
          exact ⟨fun z => z.2.2.2.symm, fun z => ⟨by omega, by omega, by omega, z.symm⟩⟩
        · rw [wk]
          exact ⟨fun z => by have := z.2.2.1; omega, fun z => by omega⟩
  · rintro _ rfl
    refine hX _ ⟨⟨by dsimp only; omega, by dsimp only; omega⟩, fun c hc => by dsimp only; rw [up_ne hc, g1 c hc], fun a a0 ha => ?_⟩ (by dsimp only; omega)
    dsimp only at ha ⊢
    rw [up_eq]
    by_cases z : a = t
    · rw [if_pos z]
    · rw [if_neg z]; exact g2 a a0 (by omega)
