-- can
theorem ctN_congr {p q : Nat → Bool} : ∀ {n : Nat}, (∀ k, k < n → p k = q k) → ctN p n = ctN q n
  | 0, _ => rfl
  | n + 1, h => by rw [ctN_s, ctN_s, ctN_congr (n := n) (fun k hk => h k (by omega)), h n (by omega)]
theorem ctN_add {p q r : Nat → Bool} : ∀ {n : Nat}, (∀ k, k < n → ((p k = true ∧ q k = false ∧ r k = true) ∨ (p k = false ∧ q k = true ∧ r k = true) ∨ (p k = false ∧ q k = false ∧ r k = false))) → ctN p n + ctN q n = ctN r n
  | 0, _ => rfl
  | n + 1, h => by
    have a := ctN_add (n := n) (fun k hk => h k (by omega))
    rw [ctN_s, ctN_s, ctN_s]
    rcases h n (by omega) with ⟨h1, h2, h3⟩ | ⟨h1, h2, h3⟩ | ⟨h1, h2, h3⟩ <;> rw [h1, h2, h3] <;> simp <;> omega
theorem ctN_zero {p : Nat → Bool} : ∀ {n : Nat}, (∀ k, k < n → p k = false) → ctN p n = 0
  | 0, _ => rfl
  | n + 1, h => by rw [ctN_s, ctN_zero (n := n) (fun k hk => h k (by omega)), h n (by omega)]; rfl
theorem ctN_pos {p : Nat → Bool} : ∀ {n : Nat}, 0 < ctN p n → ∃ k, k < n ∧ p k = true
  | 0, h => (Nat.not_lt_zero 0 h).elim
  | n + 1, h => by
    by_cases q : p n = true
    · exact ⟨n, by omega, q⟩
    · rw [ctN_s, if_neg q] at h
      obtain ⟨k, hk, e⟩ := ctN_pos (n := n) (by omega)
      exact ⟨k, by omega, e⟩
theorem ctN_pos' {p : Nat → Bool} {n k : Nat} (hk : k < n) (e : p k = true) : 0 < ctN p n := by
  have := ctN_mono (p := p) (m := n) (k := k + 1) (by omega)
  rw [ctN_s, if_pos e] at this
  omega
def SHOWN (c : Int) (a b d : Int → Int) (x v : Int) : Prop := ∀ j : Int, 0 ≤ j → j < c → a j = x → ((d j = 0 → v = b j) ∧ (d j = 1 → b j < v) ∧ (d j = 2 → v < b j))
theorem SHOWN.cong {c : Int} {a b d a' b' d' : Int → Int} {x v : Int} (e : ∀ j : Int, 0 ≤ j → j < c → a' j = a j ∧ b' j = b j ∧ d' j = d j) : SHOWN c a' b' d' x v ↔ SHOWN c a b d x v := by
  constructor
  · intro h j j0 j1 q
    have := e j j0 j1
    have z := h j j0 j1 (by rw [this.1]; exact q)
    rwa [this.2.1, this.2.2] at z
  · intro h j j0 j1 q
    have := e j j0 j1
    have z := h j j0 j1 (by rw [← this.1]; exact q)
    rwa [← this.2.1, ← this.2.2] at z
theorem sp_lowestOf {x : Int} {h : aH} {Q : Int → Prop} (hx : inR x) (hc : 0 ≤ h 52 7 ∧ h 52 7 ≤ 6) (ha : ∀ j, 0 ≤ j → j < h 52 7 → (0 ≤ h 53 j ∧ h 53 j ≤ 3) ∧ (0 ≤ h 54 j ∧ h 54 j ≤ 720) ∧ 0 ≤ h 55 j ∧ h 55 j ≤ 2) (k : ∀ r, (0 ≤ r ∧ r ≤ 721) → (∀ v, 0 ≤ v → (r ≤ v ↔ ∀ j : Int, 0 ≤ j → j < h 52 7 → h 53 j = x → ((h 55 j = 0 → h 54 j ≤ v) ∧ (h 55 j = 1 → h 54 j < v)))) → Q r) : wp_X1_lowestOf x h Q := by
  unfold wp_X1_lowestOf
  refine lp.rule (μ := fun y => (7 - y.2).toNat) (I := fun y => (0 ≤ y.2 ∧ y.2 ≤ h 52 7) ∧ (0 ≤ y.1 ∧ y.1 ≤ 721) ∧ ∀ v : Int, 0 ≤ v → (y.1 ≤ v ↔ ∀ j : Int, 0 ≤ j → j < y.2 → h 53 j = x → ((h 55 j = 0 → h 54 j ≤ v) ∧ (h 55 j = 1 → h 54 j < v)))) ?_ (0, 0) ⟨⟨by omega, by dsimp only; omega⟩, ⟨by omega, by omega⟩, fun v v0 => ⟨fun _ j j0 j1 => absurd (show j < 0 from j1) (by omega), fun _ => v0⟩⟩
  rintro X ⟨s, t⟩ ⟨⟨t0, t1⟩, sb, hs⟩ hX
  dsimp only at t0 t1 sb hs ⊢
  unfold wp_X1_lowestOf_B4 wp_X1_lowestOf_J68
  have nx : ∀ s', t < h 52 7 → (0 ≤ s' ∧ s' ≤ 721) → (∀ v, 0 ≤ v → (s' ≤ v ↔ s ≤ v ∧ (h 53 t = x → ((h 55 t = 0 → h 54 t ≤ v) ∧ (h 55 t = 1 → h 54 t < v))))) → X (s', t + 1) := fun s' tl sb' e => hX _ ⟨⟨by dsimp only; omega, by dsimp only; omega⟩, sb', fun v v0 => by
    dsimp only
    rw [e v v0, hs v v0]
    constructor
    · intro z j j0 j1 q
      by_cases hj : j = t
      · rw [hj] at q ⊢; exact z.2 q
      · exact z.1 j j0 (by omega) q
    · intro z
      exact ⟨fun j j0 j1 q => z j j0 (by omega) q, fun q => z t t0 (by omega) q⟩⟩ (by dsimp only; omega)
  refine ⟨inR_of (by omega) (by omega), inR_of (by omega) (by omega), fun q => k s sb (fun v v0 => by rw [hs v v0, show t = h 52 7 by omega]), fun q => ?_⟩
  have a := ha t t0 (by omega)
  refine ⟨⟨by omega, by omega⟩, inR_of (by omega) (by omega), hx, fun q2 => ⟨inR_of (by omega) (by omega), fun q3 => nx s (by omega) sb (fun v v0 => ⟨fun z => ⟨z, fun _ => ⟨fun _ => by omega, fun _ => by omega⟩⟩, fun z => z.1⟩), fun q3 => ?_⟩, fun q2 => nx s (by omega) sb (fun v v0 => ⟨fun z => ⟨z, fun q4 => absurd q4 q2⟩, fun z => z.1⟩)⟩
  rintro _ rfl
  by_cases q4 : h 55 t = 1
  · rw [if_pos q4]
    refine ⟨inR_of (by omega) (by omega), inR_of (by omega) (by omega), ?_⟩
    rintro _ rfl
    refine nx _ (by omega) (by omega) (fun v v0 => ⟨fun z => ⟨by omega, fun _ => ⟨fun _ => by omega, fun _ => by omega⟩⟩, fun z => ?_⟩)
    have := (z.2 q2).2 q4
    omega
  · rw [if_neg q4]
    refine ⟨inR_of (by omega) (by omega), inR_of (by omega) (by omega), ?_⟩
    rintro _ rfl
    refine nx _ (by omega) (by omega) (fun v v0 => ⟨fun z => ⟨by omega, fun _ => ⟨fun _ => by omega, fun _ => by omega⟩⟩, fun z => ?_⟩)
    have := (z.2 q2).1 (by omega)
    omega
theorem sp_highestOf {x : Int} {h : aH} {Q : Int → Prop} (hx : inR x) (hc : 0 ≤ h 52 7 ∧ h 52 7 ≤ 6) (ha : ∀ j, 0 ≤ j → j < h 52 7 → (0 ≤ h 53 j ∧ h 53 j ≤ 3) ∧ (0 ≤ h 54 j ∧ h 54 j ≤ 720) ∧ 0 ≤ h 55 j ∧ h 55 j ≤ 2) (k : ∀ r, (-1 ≤ r ∧ r ≤ 720) → (∀ v, v ≤ 720 → (v ≤ r ↔ ∀ j : Int, 0 ≤ j → j < h 52 7 → h 53 j = x → ((h 55 j = 0 → v ≤ h 54 j) ∧ (h 55 j = 2 → v < h 54 j)))) → Q r) : wp_X1_highestOf x h Q := by
  unfold wp_X1_highestOf
  refine lp.rule (μ := fun y => (7 - y.2).toNat) (I := fun y => (0 ≤ y.2 ∧ y.2 ≤ h 52 7) ∧ (-1 ≤ y.1 ∧ y.1 ≤ 720) ∧ ∀ v : Int, v ≤ 720 → (v ≤ y.1 ↔ ∀ j : Int, 0 ≤ j → j < y.2 → h 53 j = x → ((h 55 j = 0 → v ≤ h 54 j) ∧ (h 55 j = 2 → v < h 54 j)))) ?_ (720, 0) ⟨⟨by omega, by dsimp only; omega⟩, ⟨by dsimp only; omega, by dsimp only; omega⟩, fun v v0 => ⟨fun _ j j0 j1 => absurd (show j < 0 from j1) (by omega), fun _ => v0⟩⟩
  rintro X ⟨s, t⟩ ⟨⟨t0, t1⟩, sb, hs⟩ hX
  dsimp only at t0 t1 sb hs ⊢
  unfold wp_X1_highestOf_B6 wp_X1_highestOf_J70
  have nx : ∀ s', t < h 52 7 → (-1 ≤ s' ∧ s' ≤ 720) → (∀ v, v ≤ 720 → (v ≤ s' ↔ v ≤ s ∧ (h 53 t = x → ((h 55 t = 0 → v ≤ h 54 t) ∧ (h 55 t = 2 → v < h 54 t))))) → X (s', t + 1) := fun s' tl sb' e => hX _ ⟨⟨by dsimp only; omega, by dsimp only; omega⟩, sb', fun v v0 => by
    dsimp only
    rw [e v v0, hs v v0]
    constructor
    · intro z j j0 j1 q
      by_cases hj : j = t
      · rw [hj] at q ⊢; exact z.2 q
      · exact z.1 j j0 (by omega) q
    · intro z
      exact ⟨fun j j0 j1 q => z j j0 (by omega) q, fun q => z t t0 (by omega) q⟩⟩ (by dsimp only; omega)
  refine ⟨inR_of (by omega) (by omega), inR_of (by omega) (by omega), fun q => k s sb (fun v v0 => by rw [hs v v0, show t = h 52 7 by omega]), fun q => ?_⟩
  have a := ha t t0 (by omega)
  refine ⟨⟨by omega, by omega⟩, inR_of (by omega) (by omega), hx, fun q2 => ⟨inR_of (by omega) (by omega), fun q3 => nx s (by omega) sb (fun v v0 => ⟨fun z => ⟨z, fun _ => ⟨fun _ => by omega, fun _ => by omega⟩⟩, fun z => z.1⟩), fun q3 => ?_⟩, fun q2 => nx s (by omega) sb (fun v v0 => ⟨fun z => ⟨z, fun q4 => absurd q4 q2⟩, fun z => z.1⟩)⟩
  rintro _ rfl
  by_cases q4 : h 55 t = 2
  · rw [if_pos q4]
    refine ⟨inR_of (by omega) (by omega), inR_of (by omega) (by omega), ?_⟩
    rintro _ rfl
    refine nx _ (by omega) (by omega) (fun v v0 => ⟨fun z => ⟨by omega, fun _ => ⟨fun _ => by omega, fun _ => by omega⟩⟩, fun z => ?_⟩)
    have := (z.2 q2).2 q4
    omega
  · rw [if_neg q4]
    refine ⟨inR_of (by omega) (by omega), inR_of (by omega) (by omega), ?_⟩
    rintro _ rfl
    refine nx _ (by omega) (by omega) (fun v v0 => ⟨fun z => ⟨by omega, fun _ => ⟨fun _ => by omega, fun _ => by omega⟩⟩, fun z => ?_⟩)
    have := (z.2 q2).1 (by omega)
    omega
-- ways prepared
def WI (g : aH) (m : Int) (f : aH) : Prop := (∀ k, k ≠ 58 → f k = g k) ∧ ∀ v : Int, 0 ≤ v → v ≤ 720 → f 58 v = ((ctN (fun k => decide (wof (g 4) k = v)) m.toNat : Nat) : Int)
theorem wof_dig {w : Int → Int} {a b c d : Int} (ha : 0 ≤ a ∧ a < 10) (hb : 0 ≤ b ∧ b < 10) (hc : 0 ≤ c ∧ c < 10) (hd : 0 ≤ d ∧ d < 10) : wof w (1000 * a + 100 * b + 10 * c + d).toNat = a * w 0 + b * w 1 + c * w 2 + d * w 3 := by
  unfold wof
  rw [show (((1000 * a + 100 * b + 10 * c + d).toNat / 1000 : Nat) : Int) = a by omega, show (((1000 * a + 100 * b + 10 * c + d).toNat / 100 % 10 : Nat) : Int) = b by omega, show (((1000 * a + 100 * b + 10 * c + d).toNat / 10 % 10 : Nat) : Int) = c by omega, show (((1000 * a + 100 * b + 10 * c + d).toNat % 10 : Nat) : Int) = d by omega, Int.mul_comm (w 0), Int.mul_comm (w 1), Int.mul_comm (w 2), Int.mul_comm (w 3)]
theorem spW4 {g f : aH} {a b c x5 : Int} {X40 : Int × aH → Prop} (hw : ∀ i, 0 ≤ i → i < 4 → 1 ≤ g 4 i ∧ g 4 i ≤ 20) (ha : 0 ≤ a ∧ a < 10) (hb : 0 ≤ b ∧ b < 10) (hc : 0 ≤ c ∧ c < 10) (e5 : x5 = a * g 4 0 + b * g 4 1 + c * g 4 2) (hf : WI g (1000 * a + 100 * b + 10 * c) f) (kk : ∀ f', WI g (1000 * a + 100 * b + 10 * (c + 1)) f' → X40 (c + 1, f')) : lp (fun X y => wp_X1_prepareWays_B70 X40 c x5 X y.1 y.2) (0, f) := by
  refine lp.rule (μ := fun y => (11 - y.1).toNat) (I := fun y => (0 ≤ y.1 ∧ y.1 ≤ 10) ∧ WI g (1000 * a + 100 * b + 10 * c + y.1) y.2) ?_ (0, f) ⟨⟨by omega, by dsimp only; omega⟩, by dsimp only; rw [Int.add_zero]; exact hf⟩
  rintro X ⟨t, f1⟩ ⟨⟨t0, t1⟩, w1, w2⟩ hX
  dsimp only at t0 t1 w1 w2 ⊢
  unfold wp_X1_prepareWays_B70
  refine ⟨inR_of (by omega) (by omega), fun q => ?_, fun q => ?_⟩
  · refine kk f1 ⟨w1, fun v v0 v1 => ?_⟩
    rw [w2 v v0 v1, show 1000 * a + 100 * b + 10 * (c + 1) = 1000 * a + 100 * b + 10 * c + t by omega]
  · have e := wof_dig (w := g 4) ha hb hc (d := t) (by omega)
    have bd := wof_bd (w := g 4) (v := (1000 * a + 100 * b + 10 * c + t).toNat) (by omega) hw
    rw [w1 4 (by decide), e5, ← e]
    refine ⟨⟨by omega, by omega⟩, ?_⟩
    rintro _ rfl
    refine hX _ ⟨⟨by dsimp only; omega, by dsimp only; omega⟩, fun k hk => ?_, fun v v0 v1 => ?_⟩ (by dsimp only; omega)
    · dsimp only; rw [up_ne hk, w1 k hk]
    · dsimp only
      rw [show (1000 * a + 100 * b + 10 * c + (t + 1)).toNat = (1000 * a + 100 * b + 10 * c + t).toNat + 1 by omega, ctN_s, up_eq, w2 v v0 v1]
      by_cases hv : v = wof (g 4) (1000 * a + 100 * b + 10 * c + t).toNat
      · rw [if_pos hv, w2 _ (by omega) (by omega), if_pos (by simp [hv]), ← hv]; omega
      · rw [if_neg hv, if_neg (by simpa using fun z => hv z.symm)]; omega
theorem spW3 {g f : aH} {a b : Int} {X31 : Int × aH → Prop} (hw : ∀ i, 0 ≤ i → i < 4 → 1 ≤ g 4 i ∧ g 4 i ≤ 20) (ha : 0 ≤ a ∧ a < 10) (hb : 0 ≤ b ∧ b < 10) (hf : WI g (1000 * a + 100 * b) f) (kk : ∀ f', WI g (1000 * a + 100 * (b + 1)) f' → X31 (b + 1, f')) : lp (fun X y => wp_X1_prepareWays_B40 a X31 b X y.1 y.2) (0, f) := by
  refine lp.rule (μ := fun y => (11 - y.1).toNat) (I := fun y => (0 ≤ y.1 ∧ y.1 ≤ 10) ∧ WI g (1000 * a + 100 * b + 10 * y.1) y.2) ?_ (0, f) ⟨⟨by omega, by dsimp only; omega⟩, by dsimp only; rw [Int.mul_zero, Int.add_zero]; exact hf⟩
  rintro X ⟨t, f1⟩ ⟨⟨t0, t1⟩, w⟩ hX
  dsimp only at t0 t1 w ⊢
  unfold wp_X1_prepareWays_B40
  refine ⟨inR_of (by omega) (by omega), fun q => kk f1 ?_, fun q => ?_⟩
  · rw [show 1000 * a + 100 * (b + 1) = 1000 * a + 100 * b + 10 * t by omega]; exact w
  · rintro _ rfl
    exact spW4 hw ha hb (by omega) (by rw [w.1 4 (by decide)]) w (fun f' w' => hX _ ⟨⟨by dsimp only; omega, by dsimp only; omega⟩, w'⟩ (by dsimp only; omega))
theorem spW2 {g f : aH} {a : Int} {X23 : Int × aH → Prop} (hw : ∀ i, 0 ≤ i → i < 4 → 1 ≤ g 4 i ∧ g 4 i ≤ 20) (ha : 0 ≤ a ∧ a < 10) (hf : WI g (1000 * a) f) (kk : ∀ f', WI g (1000 * (a + 1)) f' → X23 (a + 1, f')) : lp (fun X y => wp_X1_prepareWays_B31 X23 a X y.1 y.2) (0, f) := by
  refine lp.rule (μ := fun y => (11 - y.1).toNat) (I := fun y => (0 ≤ y.1 ∧ y.1 ≤ 10) ∧ WI g (1000 * a + 100 * y.1) y.2) ?_ (0, f) ⟨⟨by omega, by dsimp only; omega⟩, by dsimp only; rw [Int.mul_zero, Int.add_zero]; exact hf⟩
  rintro X ⟨t, f1⟩ ⟨⟨t0, t1⟩, w⟩ hX
  dsimp only at t0 t1 w ⊢
  unfold wp_X1_prepareWays_B31
  refine ⟨inR_of (by omega) (by omega), fun q => kk f1 ?_, fun q => ?_⟩
  · rw [show 1000 * (a + 1) = 1000 * a + 100 * t by omega]; exact w
  · exact spW3 hw ha (by omega) w (fun f' w' => hX _ ⟨⟨by dsimp only; omega, by dsimp only; omega⟩, w'⟩ (by dsimp only; omega))
theorem sp_prepareWays {h : aH} {Q : aH → Prop} (hw : ∀ i, 0 ≤ i → i < 4 → 1 ≤ h 4 i ∧ h 4 i ≤ 20) (iw : WAYS (h 52 6) (h 4) (h 58)) (kk : ∀ h', (∀ k, k ≠ 52 → k ≠ 58 → h' k = h k) → (∀ j : Int, ¬ j = 6 → h' 52 j = h 52 j) → h' 52 6 = 1 → WAYS 1 (h 4) (h' 58) → Q h') : wp_X1_prepareWays h Q := by
  unfold wp_X1_prepareWays
  refine ⟨inR_of (by have := iw.1; omega) (by have := iw.1; omega), fun q => ?_, fun q => ?_⟩
  · rintro _ rfl
    refine sp_fill (by decide) (fun g g1 g2 => ?_)
    have e4 : g 4 = h 4 := by rw [g1 4 (by decide), up_ne (by decide)]
    have w0 : WI g 0 g := ⟨fun _ _ => rfl, fun v v0 v1 => g2 v v0 (by show v < 721; omega)⟩
    refine lp.rule (μ := fun y => (11 - y.1).toNat) (I := fun y => (0 ≤ y.1 ∧ y.1 ≤ 10) ∧ WI g (1000 * y.1) y.2) ?_ (0, g) ⟨⟨by omega, by dsimp only; omega⟩, by dsimp only; rw [Int.mul_zero]; exact w0⟩
    rintro X ⟨t, f1⟩ ⟨⟨t0, t1⟩, w⟩ hX
    dsimp only at t0 t1 w ⊢
    unfold wp_X1_prepareWays_B23
    refine ⟨inR_of (by omega) (by omega), fun q2 => ?_, fun q2 => ?_⟩
    · refine kk f1 (fun k k1 k2 => by rw [w.1 k k2, g1 k k2, up_ne k1]) (fun j hj => by rw [w.1 52 (by decide), g1 52 (by decide), up_eq, if_neg hj]) (by rw [w.1 52 (by decide), g1 52 (by decide), up_eq, if_pos rfl]) ⟨Or.inr rfl, fun _ v v0 v1 => ?_⟩
      rw [w.2 v v0 v1, e4, show (1000 * t).toNat = 10000 by omega]
    · exact spW2 (by rw [e4]; exact hw) (by omega) w (fun f' w' => hX _ ⟨⟨by dsimp only; omega, by dsimp only; omega⟩, w'⟩ (by dsimp only; omega))
  · have q' : h 52 6 = 1 := by have := iw.1; omega
    exact kk h (fun _ _ _ => rfl) (fun _ _ => rfl) q' (by rw [q'] at iw; exact iw)
theorem Inv.ways {c : Int} {h h' : aH} (i : Inv c h) (hk : ∀ k, k ≠ 52 → k ≠ 58 → h' k = h k) (h5 : ∀ j : Int, ¬ j = 6 → h' 52 j = h 52 j) (h6 : h' 52 6 = 1) (iw : WAYS 1 (h 4) (h' 58)) : Inv c h' := by
  have s : ∀ k, k ≠ 52 ∧ k ≠ 58 → h' k = h k := fun k q => hk k q.1 q.2
  obtain ⟨i1, i2, i3, i4, i5, i6, i7, i8, i9, i10, i11⟩ := i
  refine ⟨i1.fr (by rw [s 1 (by omega)]) (by rw [s 59 (by omega)]) (s 2 (by omega)) (s 60 (by omega)), i2.fr (by rw [s 3 (by omega)]) (by rw [s 3 (by omega)]) (s 61 (by omega)) (s 4 (by omega)) (s 62 (by omega)) (s 6 (by omega)) (s 64 (by omega)) (s 7 (by omega)) (s 65 (by omega)), ?_, i4.fr (by rw [s 3 (by omega)]) (by rw [s 15 (by omega)]) (by rw [s 15 (by omega)]) (by rw [s 59 (by omega)]) (s 69 (by omega)) (fun k q1 q2 => s k (by omega)), i5.fr (by rw [s 3 (by omega)]) (s 42 (by omega)) (s 68 (by omega)) (s 67 (by omega)) (s 38 (by omega)) (s 39 (by omega)) (s 40 (by omega)) (s 41 (by omega)), i6.fr (h5 7 (by decide)) (h5 8 (by decide)) (by rw [s 59 (by omega)]) (by rw [s 59 (by omega)]) (fun k q1 q2 => s k (by omega)) (fun k q1 q2 => s k (by omega)), ?_, ?_, ?_, ?_, ?_⟩
  · rw [s 3 (by omega), s 13 (by omega), s 14 (by omega), s 66 (by omega)]; exact i3
  · rw [h6, s 4 (by omega)]; exact iw
  · rw [s 43 (by omega), s 44 (by omega)]; exact i8
  · rw [s 3 (by omega), s 76 (by omega), s 77 (by omega)]; exact i9
  · rw [s 3 (by omega), s 7 (by omega), s 48 (by omega)]; exact i10
  · rw [s 0 (by omega), s 59 (by omega)]; exact i11
/-- the three answers -/
def CAN (y : Int) (w : Int → Int) (lo hi r : Int) : Prop := (y = 0 → r = ((ctN (fun k => decide (lo ≤ wof w k ∧ wof w k ≤ hi)) 10000 : Nat) : Int)) ∧ (¬ y = 0 → ((r = -9 ∧ ∀ k, k < 10000 → ¬ (lo ≤ wof w k ∧ wof w k ≤ hi)) ∨ ((∃ k, k < 10000 ∧ (lo ≤ wof w k ∧ wof w k ≤ hi) ∧ wof w k = r) ∧ (y = 1 → ∀ k, k < 10000 → (lo ≤ wof w k ∧ wof w k ≤ hi) → r ≤ wof w k) ∧ (¬ y = 1 → ∀ k, k < 10000 → (lo ≤ wof w k ∧ wof w k ≤ hi) → wof w k ≤ r))))
theorem CAN.uniq {y : Int} {w : Int → Int} {lo hi r r' : Int} (a : CAN y w lo hi r) (b : CAN y w lo hi r') : r = r' := by
  by_cases q : y = 0
  · rw [a.1 q, b.1 q]
  · rcases a.2 q with ⟨a1, a2⟩ | ⟨⟨k, k1, k2, k3⟩, a2, a3⟩
    · rcases b.2 q with ⟨b1, b2⟩ | ⟨⟨k', k1', k2', k3'⟩, b2, b3⟩
      · omega
      · exact absurd k2' (a2 k' k1')
    · rcases b.2 q with ⟨b1, b2⟩ | ⟨⟨k', k1', k2', k3'⟩, b2, b3⟩
      · exact absurd k2 (b2 k k1)
      · by_cases q1 : y = 1
        · have := a2 q1 k' k1' k2'
          have := b2 q1 k k1 k2
          omega
        · have := a3 q1 k' k1' k2'
          have := b3 q1 k k1 k2
          omega
theorem sp_waysBetween {lo hi : Int} {h : aH} {Q : Int → Prop} (hl : 0 ≤ lo ∧ lo ≤ 721) (hh : -1 ≤ hi ∧ hi ≤ 720) (iw : WAYS 1 (h 4) (h 58)) (k : ∀ r, CAN 0 (h 4) lo hi r → Q r) : wp_X1_waysBetween lo hi h Q := by
  unfold wp_X1_waysBetween
  refine lp.rule (μ := fun y => (800 - y.2).toNat) (I := fun y => (lo ≤ y.2 ∧ (y.2 = lo ∨ y.2 ≤ hi + 1)) ∧ y.1 = ((ctN (fun k => decide (lo ≤ wof (h 4) k ∧ wof (h 4) k < y.2)) 10000 : Nat) : Int)) ?_ (0, lo) ⟨⟨by dsimp only; omega, Or.inl rfl⟩, by dsimp only; rw [ctN_zero (fun k _ => by simp)]; rfl⟩
  rintro X ⟨s, t⟩ ⟨⟨t0, t1⟩, hs⟩ hX
  dsimp only at t0 t1 hs ⊢
  unfold wp_X1_waysBetween_B5
  refine ⟨inR_of (by omega) (by omega), inR_of (by omega) (by omega), fun q => k s ⟨fun _ => ?_, fun z => absurd rfl z⟩, fun q => ⟨⟨by omega, by omega⟩, ?_⟩⟩
  · rw [hs]
    refine congrArg (fun n : Nat => (n : Int)) (ctN_congr (fun k _ => ?_))
    rw [Bool.eq_iff_iff, decide_eq_true_iff, decide_eq_true_iff]
    omega
  · rintro _ rfl
    refine hX _ ⟨⟨by dsimp only; omega, Or.inr (by dsimp only; omega)⟩, ?_⟩ (by dsimp only; omega)
    dsimp only
    rw [iw.2 rfl t (by omega) (by omega), hs, ← ctN_add (p := fun k => decide (lo ≤ wof (h 4) k ∧ wof (h 4) k < t)) (q := fun k => decide (wof (h 4) k = t)) (r := fun k => decide (lo ≤ wof (h 4) k ∧ wof (h 4) k < t + 1)) (n := 10000) ?_]
    · omega
    · intro k _
      simp only [decide_eq_true_iff, decide_eq_false_iff_not]
      omega
theorem sp_leastBetween {lo hi : Int} {h : aH} {Q : Int → Prop} (hl : 0 ≤ lo ∧ lo ≤ 721) (hh : -1 ≤ hi ∧ hi ≤ 720) (iw : WAYS 1 (h 4) (h 58)) (k : ∀ r, CAN 1 (h 4) lo hi r → Q r) : wp_X1_leastBetween lo hi h Q := by
  unfold wp_X1_leastBetween
  refine lp.rule (μ := fun y => (800 - y).toNat) (I := fun y => (lo ≤ y ∧ (y = lo ∨ y ≤ hi + 1)) ∧ ∀ k, k < 10000 → ¬ (lo ≤ wof (h 4) k ∧ wof (h 4) k < y)) ?_ lo ⟨⟨by omega, Or.inl rfl⟩, fun k _ => by omega⟩
  rintro X t ⟨⟨t0, t1⟩, hs⟩ hX
  unfold wp_X1_leastBetween_B2
  refine ⟨inR_of (by omega) (by omega), inR_of (by omega) (by omega), fun q => k _ ⟨fun z => absurd z (by decide), fun _ => Or.inl ⟨rfl, fun k hk => by have := hs k hk; omega⟩⟩, fun q => ⟨⟨by omega, by omega⟩, ?_⟩⟩
  have e := iw.2 rfl t (by omega) (by omega)
  have b := ctN_le (fun k => decide (wof (h 4) k = t)) 10000
  refine ⟨inR_of (by omega) (by omega), fun q2 => hX _ ⟨⟨by omega, Or.inr (by omega)⟩, fun k hk z => ?_⟩ (by omega), fun q2 => k t ⟨fun z => absurd z (by decide), fun _ => Or.inr ?_⟩⟩
  · have z1 := hs k hk
    have := ctN_pos' (p := fun k => decide (wof (h 4) k = t)) hk (by rw [decide_eq_true_iff]; omega)
    omega
  · obtain ⟨k, hk, ek⟩ := ctN_pos (p := fun k => decide (wof (h 4) k = t)) (n := 10000) (by omega)
    rw [decide_eq_true_iff] at ek
    exact ⟨⟨k, hk, by omega, ek⟩, fun _ k' hk' z => by have := hs k' hk'; omega, fun z => absurd rfl z⟩
theorem sp_greatestBetween {lo hi : Int} {h : aH} {Q : Int → Prop} (hl : 0 ≤ lo ∧ lo ≤ 721) (hh : -1 ≤ hi ∧ hi ≤ 720) (iw : WAYS 1 (h 4) (h 58)) (k : ∀ r, CAN 2 (h 4) lo hi r → Q r) : wp_X1_greatestBetween lo hi h Q := by
  unfold wp_X1_greatestBetween
  refine lp.rule (μ := fun y => (y + 5).toNat) (I := fun y => (y ≤ hi ∧ (y = hi ∨ lo - 1 ≤ y)) ∧ ∀ k, k < 10000 → ¬ (y < wof (h 4) k ∧ wof (h 4) k ≤ hi)) ?_ hi ⟨⟨by omega, Or.inl rfl⟩, fun k _ => by omega⟩
  rintro X t ⟨⟨t0, t1⟩, hs⟩ hX
  unfold wp_X1_greatestBetween_B2
  refine ⟨inR_of (by omega) (by omega), inR_of (by omega) (by omega), fun q => k _ ⟨fun z => absurd z (by decide), fun _ => Or.inl ⟨rfl, fun k hk => by have := hs k hk; omega⟩⟩, fun q => ⟨⟨by omega, by omega⟩, ?_⟩⟩
  have e := iw.2 rfl t (by omega) (by omega)
  have b := ctN_le (fun k => decide (wof (h 4) k = t)) 10000
  refine ⟨inR_of (by omega) (by omega), fun q2 => hX _ ⟨⟨by omega, Or.inr (by omega)⟩, fun k hk z => ?_⟩ (by omega), fun q2 => k t ⟨fun z => absurd z (by decide), fun _ => Or.inr ?_⟩⟩
  · have z1 := hs k hk
    have := ctN_pos' (p := fun k => decide (wof (h 4) k = t)) hk (by rw [decide_eq_true_iff]; omega)
    omega
  · obtain ⟨k, hk, ek⟩ := ctN_pos (p := fun k => decide (wof (h 4) k = t)) (n := 10000) (by omega)
    rw [decide_eq_true_iff] at ek
    exact ⟨⟨k, hk, by omega, ek⟩, fun z => absurd z (by decide), fun _ k' hk' z => by have := hs k' hk'; omega⟩
theorem spM_asShown {x v : Int} {h : aH} {Q : Int → Prop} (hx : inR x) (hv' : 0 ≤ v ∧ v ≤ 720) (hc : 0 ≤ h 59 22 ∧ h 59 22 ≤ 6) (ha : ∀ j, 0 ≤ j → j < h 59 22 → (0 ≤ h 70 j ∧ h 70 j ≤ 3) ∧ (0 ≤ h 71 j ∧ h 71 j ≤ 720) ∧ 0 ≤ h 72 j ∧ h 72 j ≤ 2) (k : ∀ r, ((r = 1 ∧ SHOWN (h 59 22) (h 70) (h 71) (h 72) x v) ∨ (r = 0 ∧ ¬ SHOWN (h 59 22) (h 70) (h 71) (h 72) x v)) → Q r) : wp_X9_isAsShown x v h Q := by
  unfold wp_X9_isAsShown
  refine lp.rule (μ := fun y => (7 - y.2).toNat) (I := fun y => (0 ≤ y.2 ∧ y.2 ≤ h 59 22) ∧ ((y.1 = 1 ∧ SHOWN y.2 (h 70) (h 71) (h 72) x v) ∨ (y.1 = 0 ∧ ¬ SHOWN y.2 (h 70) (h 71) (h 72) x v))) ?_ (1, 0) ⟨⟨by omega, by dsimp only; omega⟩, Or.inl ⟨rfl, fun j j0 j1 => absurd (show j < 0 from j1) (by omega)⟩⟩
  rintro X ⟨s, t⟩ ⟨⟨t0, t1⟩, hs⟩ hX
  dsimp only at t0 t1 hs ⊢
  unfold wp_X9_isAsShown_B5
  refine ⟨inR_of (by omega) (by omega), inR_of (by omega) (by omega), fun q => ⟨by omega, k s (by rwa [show t = h 59 22 by omega] at hs)⟩, fun q => ⟨⟨by omega, by omega⟩, ?_⟩⟩
  have a := ha t t0 (by omega)
  rintro _ rfl
  have i72 : inR (h 72 t) := inR_of (by omega) (by omega)
  refine ⟨⟨inR_of (by omega) (by omega), fun _ => trivial, fun _ => ⟨inR_of (by omega) (by omega), hx, fun _ => ⟨inR_of (by omega) (by omega), fun _ => ⟨fun _ => ⟨i72, trivial⟩, fun _ => ⟨i72, trivial⟩⟩, fun _ => ⟨i72, trivial⟩⟩, fun _ => trivial⟩⟩, ?_⟩
  rintro _ rfl
  refine hX _ ⟨⟨by dsimp only; omega, by dsimp only; omega⟩, ?_⟩ (by dsimp only; omega)
  dsimp only
  have st : SHOWN (t + 1) (h 70) (h 71) (h 72) x v ↔ SHOWN t (h 70) (h 71) (h 72) x v ∧ (h 70 t = x → ((h 72 t = 0 → v = h 71 t) ∧ (h 72 t = 1 → h 71 t < v) ∧ (h 72 t = 2 → v < h 71 t))) := by
    constructor
    · intro z
      exact ⟨fun j j0 j1 q => z j j0 (by omega) q, fun q => z t t0 (by omega) q⟩
    · intro z j j0 j1 q
      by_cases hj : j = t
      · rw [hj] at q ⊢; exact z.2 q
      · exact z.1 j j0 (by omega) q
  rw [st]
  rcases hs with ⟨rfl, hs⟩ | ⟨rfl, hs⟩
  · rw [if_neg (by decide)]
    by_cases q2 : h 70 t = x
    · rw [if_pos q2]
      by_cases q3 : v - h 71 t ≤ 0
      · rw [if_pos q3]
        by_cases q4 : 0 ≤ v - h 71 t
        · rw [if_pos q4]
          by_cases q5 : h 72 t = 0
          · rw [if_pos q5]; exact Or.inl ⟨rfl, hs, fun _ => ⟨fun _ => by omega, fun _ => by omega, fun _ => by omega⟩⟩
          · rw [if_neg q5]; exact Or.inr ⟨rfl, fun z => by have := z.2 q2; omega⟩
        · rw [if_neg q4]
          by_cases q5 : h 72 t = 2
          · rw [if_pos q5]; exact Or.inl ⟨rfl, hs, fun _ => ⟨fun _ => by omega, fun _ => by omega, fun _ => by omega⟩⟩
          · rw [if_neg q5]; exact Or.inr ⟨rfl, fun z => by have := z.2 q2; omega⟩
      · rw [if_neg q3]
        by_cases q5 : h 72 t = 1
        · rw [if_pos q5]; exact Or.inl ⟨rfl, hs, fun _ => ⟨fun _ => by omega, fun _ => by omega, fun _ => by omega⟩⟩
        · rw [if_neg q5]; exact Or.inr ⟨rfl, fun z => by have := z.2 q2; omega⟩
    · rw [if_neg q2]; exact Or.inl ⟨rfl, hs, fun z => absurd z q2⟩
  · rw [if_pos rfl]; exact Or.inr ⟨rfl, fun z => hs z.1⟩
/-- the reference's count so far -/
def CNI (w : Int → Int) (lo hi : Int) (m : Nat) (x3 x4 x5 : Int) : Prop := x3 = ((ctN (fun k => decide (lo ≤ wof w k ∧ wof w k ≤ hi)) m : Nat) : Int) ∧ ((x3 = 0 ∧ x4 = -9 ∧ x5 = -9) ∨ (0 < x3 ∧ (∃ k, k < m ∧ (lo ≤ wof w k ∧ wof w k ≤ hi) ∧ wof w k = x4) ∧ (∃ k, k < m ∧ (lo ≤ wof w k ∧ wof w k ≤ hi) ∧ wof w k = x5) ∧ ∀ k, k < m → (lo ≤ wof w k ∧ wof w k ≤ hi) → x4 ≤ wof w k ∧ wof w k ≤ x5))
theorem CNI.bd {w : Int → Int} {lo hi : Int} {m : Nat} {x3 x4 x5 : Int} (h : CNI w lo hi m x3 x4 x5) (hl : 0 ≤ lo) (hh : hi ≤ 720) : (0 ≤ x3 ∧ x3 ≤ m) ∧ (-9 ≤ x4 ∧ x4 ≤ 720) ∧ -9 ≤ x5 ∧ x5 ≤ 720 := by
  have b := ctN_le (fun k => decide (lo ≤ wof w k ∧ wof w k ≤ hi)) m
  have e := h.1
  rcases h.2 with z | ⟨z1, ⟨k, k1, k2, k3⟩, ⟨k', k1', k2', k3'⟩, z4⟩ <;> omega
theorem CNI.can {w : Int → Int} {lo hi y : Int} {x3 x4 x5 : Int} (h : CNI w lo hi 10000 x3 x4 x5) : CAN y w lo hi (if y = 0 then x3 else if y = 1 then x4 else x5) := by
  have e := h.1
  refine ⟨fun q => by rw [if_pos q]; exact e, fun q => ?_⟩
  rw [if_neg q]
  rcases h.2 with ⟨z1, z2, z3⟩ | ⟨z1, z2, z3, z4⟩
  · refine Or.inl ⟨by split <;> assumption, fun k hk z => ?_⟩
    have := ctN_pos' (p := fun k => decide (lo ≤ wof w k ∧ wof w k ≤ hi)) hk (by rw [decide_eq_true_iff]; exact z)
    omega
  · refine Or.inr ?_
    by_cases q1 : y = 1
    · rw [if_pos q1]
      exact ⟨z2, fun _ k hk z => (z4 k hk z).1, fun z => absurd q1 z⟩
    · rw [if_neg q1]
      exact ⟨z3, fun z => absurd z q1, fun _ k hk z => (z4 k hk z).2⟩
theorem CNI.step {w : Int → Int} {lo hi : Int} {m : Nat} {x3 x4 x5 r : Int} (h : CNI w lo hi m x3 x4 x5) (hl : 0 ≤ lo) (hr : (r = 1 ∧ lo ≤ wof w m ∧ wof w m ≤ hi) ∨ (r = 0 ∧ ¬ (lo ≤ wof w m ∧ wof w m ≤ hi))) : CNI w lo hi (m + 1) (if r = 0 then x3 else x3 + 1) (if r = 0 then x4 else (if x3 = 0 then wof w m else (if x4 ≤ wof w m then x4 else wof w m))) (if r = 0 then x5 else (if wof w m ≤ x5 then x5 else wof w m)) := by
  have b := ctN_le (fun k => decide (lo ≤ wof w k ∧ wof w k ≤ hi)) m
  have e := h.1
  unfold CNI
  rw [ctN_s]
  rcases hr with ⟨rfl, hr⟩ | ⟨rfl, hr⟩
  · have z10 : ¬ (1 : Int) = 0 := by decide
    rw [if_neg z10, if_neg z10, if_neg z10, if_pos (show decide (lo ≤ wof w m ∧ wof w m ≤ hi) = true from decide_eq_true hr)]
    refine ⟨by omega, Or.inr ⟨by omega, ?_⟩⟩
    rcases h.2 with ⟨z1, z2, z3⟩ | ⟨z1, ⟨k, k1, k2, k3⟩, ⟨k', k1', k2', k3'⟩, z4⟩
    · rw [if_pos z1, if_neg (by omega)]
      refine ⟨⟨m, by omega, hr, rfl⟩, ⟨m, by omega, hr, rfl⟩, fun k hk z => ?_⟩
      by_cases hkm : k = m
      · rw [hkm]; exact ⟨Int.le_refl _, Int.le_refl _⟩
      · have := ctN_pos' (p := fun k => decide (lo ≤ wof w k ∧ wof w k ≤ hi)) (n := m) (k := k) (by omega) (by rw [decide_eq_true_iff]; exact z)
        omega
    · rw [if_neg (by omega)]
      refine ⟨?_, ?_, fun j hj z => ?_⟩
      · split
        · exact ⟨k, by omega, k2, k3⟩
        · exact ⟨m, by omega, hr, rfl⟩
      · split
        · exact ⟨k', by omega, k2', k3'⟩
        · exact ⟨m, by omega, hr, rfl⟩
      · by_cases hjm : j = m
        · rw [hjm]
          constructor <;> split <;> omega
        · have := z4 j (by omega) z
          constructor <;> split <;> omega
  · rw [if_pos rfl, if_pos rfl, if_pos rfl, if_neg (by rw [decide_eq_true_iff]; exact hr)]
    refine ⟨by omega, ?_⟩
    rcases h.2 with z | ⟨z1, ⟨k, k1, k2, k3⟩, ⟨k', k1', k2', k3'⟩, z4⟩
    · exact Or.inl z
    · refine Or.inr ⟨z1, ⟨k, by omega, k2, k3⟩, ⟨k', by omega, k2', k3'⟩, fun j hj z => ?_⟩
      by_cases hjm : j = m
      · rw [hjm] at z; exact absurd z hr
      · exact z4 j (by omega) z
theorem S_can {c x y : Int} {h : aH} {K : aH → Prop} (i : Inv c h) (hx : inR x) (hy : inR y) (hK : ∀ h', Inv (c + 1) h' → K h') : wp_X8_can x y h (fun r h1 => wp_X9_can x y h1 (fun r2 h2 => inR r ∧ inR r2 ∧ ((r = r2 → K h2) ∧ (¬ r = r2 → False)))) := by
  obtain ⟨hn, hp, e1, e2, hw, hg, hb⟩ := i.2.1
  unfold wp_X8_can
  have bad : ¬ ((0 ≤ x ∧ x < h 3 4) ∧ 0 ≤ y ∧ y ≤ 2) → wp_X9_can x y h (fun r2 h2 => inR (-1) ∧ inR r2 ∧ ((-1 = r2 → K h2) ∧ (¬ -1 = r2 → False))) := by
    intro nq
    unfold wp_X9_can
    rintro _ rfl
    exact sp_personM hx hn (by rw [up_ne (by decide)]; exact e1) (fun r hr => ⟨fun _ => fin_ok rfl (inR_of (by omega) (by omega)) (hK _ i.thr), fun _ => sp_in2 hy inR0 (inR_of (by omega) (by omega)) (fun _ => fin_ok rfl (inR_of (by omega) (by omega)) (hK _ i.thr)) (fun a b => by omega)⟩)
  refine sp_person hx hn (fun r1 hr1 => ⟨fun h0 => bad (by omega), fun h0 => sp_within2 hy inR0 (inR_of (by omega) (by omega)) (fun nq => bad (by omega)) (fun q1 q2 => ?_)⟩)
  have hwc : ∀ j, 0 ≤ j → j < 4 → 1 ≤ h 4 j ∧ h 4 j ≤ 20 := fun j h0 h1 => (hw j h0 h1).2
  refine sp_prepareWays hwc i.2.2.2.2.2.2.1 (fun g g1 g2 g3 g4 => ?_)
  have ig := i.ways g1 g2 g3 g4
  obtain ⟨hn', hp', e1', e2', hw', hg', hb'⟩ := ig.2.1
  obtain ⟨c1, c2, c3, c4⟩ := ig.2.2.2.2.2.1.1
  have e4 : g 4 = h 4 := g1 4 (by decide) (by decide)
  have e3 : g 3 = h 3 := g1 3 (by decide) (by decide)
  have ac : ∀ j, 0 ≤ j → j < g 52 7 → (0 ≤ g 53 j ∧ g 53 j ≤ 3) ∧ (0 ≤ g 54 j ∧ g 54 j ≤ 720) ∧ 0 ≤ g 55 j ∧ g 55 j ≤ 2 := fun j h0 h1 => (c4 j h0 h1).2
  refine sp_lowestOf hx ⟨c2, c3⟩ ac (fun lo lo1 lo2 => sp_highestOf hx ⟨c2, c3⟩ ac (fun hi hi1 hi2 => ?_))
  have iw : WAYS 1 (g 4) (g 58) := by rw [e4]; exact g4
  have sh : ∀ v, 0 ≤ v → v ≤ 720 → (SHOWN (g 52 7) (g 53) (g 54) (g 55) x v ↔ lo ≤ v ∧ v ≤ hi) := fun v v0 v1 => by
    rw [lo2 v v0, hi2 v v1]
    constructor
    · intro z
      exact ⟨fun j j0 j1 q => by have := z j j0 j1 q; omega, fun j j0 j1 q => by have := z j j0 j1 q; omega⟩
    · intro z j j0 j1 q
      have a := z.1 j j0 j1 q
      have b := z.2 j j0 j1 q
      omega
  have ref : ∀ r, CAN y (g 4) lo hi r → wp_X9_can x y g (fun r2 h2 => inR r ∧ inR r2 ∧ ((r = r2 → K h2) ∧ (¬ r = r2 → False))) := by
    intro r hr
    unfold wp_X9_can
    rintro _ rfl
    refine sp_personM hx hn' (by rw [up_ne (by decide)]; exact e1') (fun r' hr' => ⟨fun q => absurd q (by rw [e3] at hr'; omega), fun _ => sp_in2 hy inR0 (inR_of (by omega) (by omega)) (fun nq => absurd ⟨q1, q2⟩ nq) (fun _ _ => ?_)⟩)
    refine lp.rule (μ := fun y => (10001 - y.2.2.2).toNat) (I := fun y => (0 ≤ y.2.2.2 ∧ y.2.2.2 ≤ 10000) ∧ CNI (g 4) lo hi y.2.2.2.toNat y.1 y.2.1 y.2.2.1) ?_ (0, -9, -9, 0) ⟨⟨by dsimp only; omega, by dsimp only; omega⟩, rfl, Or.inl ⟨rfl, rfl, rfl⟩⟩
    rintro X ⟨s3, s4, s5, t⟩ ⟨⟨t0, t1⟩, hs⟩ hX
    dsimp only at t0 t1 hs ⊢
    unfold wp_X9_can_B37
    obtain ⟨u, rfl⟩ : ∃ u : Nat, t = (u : Int) := ⟨t.toNat, by omega⟩
    rw [show ((u : Nat) : Int).toNat = u by omega] at hs
    have bb := hs.bd (by omega) (by omega)
    refine ⟨inR_of (by omega) (by omega), fun q => ⟨⟨hy, trivial⟩, ?_⟩, fun q => ?_⟩
    · rw [show u = 10000 by omega] at hs
      have er := hr.uniq hs.can
      refine fin_ok er ?_ (hK _ ig.thr)
      rw [er]
      split
      · exact inR_of (by omega) (by omega)
      · split
        · exact inR_of (by omega) (by omega)
        · exact inR_of (by omega) (by omega)
    · have a62 : up g 59 0 0 62 = g 62 := up_ne (by decide)
      have a70 : up g 59 0 0 70 = g 70 := up_ne (by decide)
      have a71 : up g 59 0 0 71 = g 71 := up_ne (by decide)
      have a72 : up g 59 0 0 72 = g 72 := up_ne (by decide)
      have a22 : up g 59 0 0 59 22 = g 52 7 := by rw [thr59 (by decide), c1]
      refine sp_weighsOf (by omega) ?_
      rw [a62, show ((u : Nat) : Int).toNat = u by omega, wof_cong (w := g 4) (fun j h0 h1 => (hw' j h0 h1).1)]
      have wb := wof_bd (w := g 4) (v := u) (by omega) (by rw [e4]; exact hwc)
      refine spM_asShown hx wb (by rw [a22]; omega) (by rw [a22, a70, a71, a72]; exact fun j h0 h1 => by have := c4 j h0 h1; rw [this.1.1, this.1.2.1, this.1.2.2]; exact this.2) (fun r11 hr11 => ?_)
      rw [a22, a70, a71, a72, SHOWN.cong (a := g 53) (b := g 54) (d := g 55) (fun j j0 j1 => (c4 j j0 j1).1), sh _ wb.1 wb.2] at hr11
      have iw3 : inR s3 := inR_of (by omega) (by omega)
      have iw4 : inR s4 := inR_of (by omega) (by omega)
      have iw5 : inR s5 := inR_of (by omega) (by omega)
      have iww : inR (wof (g 4) u) := inR_of (by omega) (by omega)
      have hb1 : 0 ≤ (u : Int) + 1 ∧ (u : Int) + 1 ≤ 10000 := by omega
      have hb2 : (10001 - ((u : Int) + 1)).toNat < (10001 - (u : Int)).toNat := (Int.toNat_lt_toNat (by omega)).mpr (by omega)
      refine ⟨⟨fun _ => trivial, fun _ => ⟨iw3, fun _ => ⟨iww, iw5, trivial⟩, fun _ => ⟨iww, iw4, fun _ => ⟨iw5, trivial⟩, fun _ => ⟨iw5, trivial⟩⟩⟩⟩, hX _ ⟨hb1, ?_⟩ hb2⟩
      dsimp only
      rw [show ((u : Int) + 1).toNat = u + 1 by omega]
      exact hs.step (by omega) hr11
  refine ⟨hy, fun q3 => sp_waysBetween lo1 hi1 iw (fun r hr => ref r (by rw [q3]; exact hr)), fun q3 => ⟨fun q4 => sp_leastBetween lo1 hi1 iw (fun r hr => ref r (by rw [q4]; exact hr)), fun q4 => sp_greatestBetween lo1 hi1 iw (fun r hr => ref r (by rw [show y = 2 by omega]; exact hr))⟩⟩
