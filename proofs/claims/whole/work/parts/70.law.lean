-- THE LAW: every run of calls
theorem band_inR {x y : Int} : inR (band x y) := by
  unfold band
  exact ⟨by have := Int32.le_toInt (Int32.ofInt x &&& Int32.ofInt y); omega, by have := Int32.toInt_lt (Int32.ofInt x &&& Int32.ofInt y); omega⟩
theorem cmpL_self {x : Int} : cmpL x x = 0 := by
  unfold cmpL
  rw [if_neg (by omega), if_pos rfl]
theorem Inv.more {c c' : Int} {h : aH} (i : Inv c h) (hc : c ≤ c') : Inv c' h := i.fr hc (fun _ _ _ _ _ _ _ _ _ _ => rfl) rfl rfl rfl rfl rfl rfl
theorem S_law {LL : Nat} {sx : Int → Int} {h : aH} (hLL : LL ≤ 384) (hs : ∀ i, inR (sx i)) (i0 : Inv 0 h) : wp_L_law LL sx h := by
  unfold wp_L_law
  refine lp.rule (μ := fun y => ((LL : Int) - y.1).toNat) (I := fun y => ∃ c : Int, 6 * c = y.1 ∧ 0 ≤ y.1 ∧ y.1 ≤ (LL : Int) ∧ Inv c y.2) ?_ (0, h) ⟨0, rfl, by dsimp only; omega, by dsimp only; omega, i0⟩
  rintro X ⟨t, g⟩ ⟨c, ec, t0, t1, i⟩ hX
  dsimp only at ec t0 t1 i ⊢
  unfold wp_L_law_B18
  refine ⟨inR_of (by omega) (by omega), inR_of (by omega) (by omega), fun _ => trivial, fun q => ?_⟩
  have go : ∀ h', Inv (c + 1) h' → wp_L_law_J1010 X t h' := fun h' i' => hX _ ⟨c + 1, by dsimp only; omega, by dsimp only; omega, by dsimp only; omega, i'⟩ (by dsimp only; omega)
  have il : inL (g 0 11) := by
    have := i.2.2.2.2.2.2.2.2.2.2.2
    exact ⟨by omega, by omega⟩
  exact ⟨⟨by omega, by omega⟩, band_inR, fun _ => go g (i.more (by omega)),
    fun _ => ⟨⟨by omega, by omega⟩, S_type i (hs _) go⟩,
    fun _ => S_clear i go,
    fun _ => S_shop i go,
    fun _ => ⟨⟨by omega, by omega⟩, ⟨by omega, by omega⟩, S_holds i (hs _) (hs _) go⟩,
    fun _ => ⟨⟨by omega, by omega⟩, ⟨by omega, by omega⟩, S_grows i (hs _) (hs _) go⟩,
    fun _ => ⟨⟨by omega, by omega⟩, S_weight i (hs _) go⟩,
    fun _ => ⟨⟨by omega, by omega⟩, S_heavy i (hs _) go⟩,
    fun _ => ⟨⟨by omega, by omega⟩, ⟨by omega, by omega⟩, S_known i (hs _) (hs _) go⟩,
    fun _ => ⟨⟨by omega, by omega⟩, S_now i (hs _) go⟩,
    fun _ => ⟨⟨by omega, by omega⟩, ⟨by omega, by omega⟩, ⟨by omega, by omega⟩, S_tells i (hs _) (hs _) (hs _) go⟩,
    fun _ => ⟨⟨by omega, by omega⟩, ⟨by omega, by omega⟩, S_keeps i (hs _) (hs _) go⟩,
    fun _ => S_day i go,
    fun _ => ⟨⟨by omega, by omega⟩, ⟨by omega, by omega⟩, S_weighs i (hs _) (hs _) go⟩,
    fun _ => S_forgets i go,
    fun _ => S_undo i go,
    fun _ => ⟨⟨by omega, by omega⟩, ⟨by omega, by omega⟩, S_beam i (hs _) (hs _) go⟩,
    fun _ => ⟨⟨by omega, by omega⟩, ⟨by omega, by omega⟩, ⟨by omega, by omega⟩, S_level i (hs _) (hs _) (hs _) go⟩,
    fun _ => ⟨⟨by omega, by omega⟩, ⟨by omega, by omega⟩, S_when i (hs _) (hs _) go⟩,
    fun _ => ⟨⟨by omega, by omega⟩, ⟨by omega, by omega⟩, ⟨by omega, by omega⟩, ⟨by omega, by omega⟩, ⟨by omega, by omega⟩, S_odds i (hs _) (hs _) (hs _) (hs _) (hs _) (fun r h' hr i' => ⟨hr, hr, fun _ => go h' i', fun z => z cmpL_self⟩)⟩,
    fun _ => ⟨⟨by omega, by omega⟩, ⟨by omega, by omega⟩, S_brass i (hs _) (hs _) go⟩,
    fun _ => ⟨⟨by omega, by omega⟩, ⟨by omega, by omega⟩, ⟨by omega, by omega⟩, S_shows i (hs _) (hs _) (hs _) go⟩,
    fun _ => ⟨⟨by omega, by omega⟩, ⟨by omega, by omega⟩, S_can i (hs _) (hs _) go⟩,
    fun _ => ⟨⟨by omega, by omega⟩, ⟨by omega, by omega⟩, S_saw i (hs _) (hs _) go⟩,
    fun _ => ⟨⟨by omega, by omega⟩, ⟨by omega, by omega⟩, S_laws i (hs _) (hs _) go⟩,
    fun _ => S_clean i go,
    fun _ => ⟨⟨by omega, by omega⟩, ⟨by omega, by omega⟩, S_rate i (hs _) (hs _) go⟩,
    fun _ => ⟨⟨by omega, by omega⟩, S_keep i (hs _) go⟩,
    fun _ => ⟨⟨by omega, by omega⟩, S_back i (hs _) go⟩,
    fun _ => ⟨⟨by omega, by omega⟩, S_count i (hs _) go⟩,
    fun _ => S_trace i (fun h' i' => ⟨il, il, fun _ => go h' i', fun z => z cmpL_self⟩)⟩
theorem Z2_0 {m : Nat} {i : Int} (h1 : ¬ (m = 1 ∧ i = 3)) (h2 : ¬ (m = 43 ∧ i = 2)) : Z2 m i = 0 := by
  unfold Z2 Z1 Z0 up
  rw [if_neg h2, if_neg h1]
theorem pure_ok : PURE := by
  intro LL sx hLL hs
  refine sp_makeEmpty (fun g f1 z4 z5 z1 z2 z3 => sp_anew (by rw [z5]; omega) (fun i i0 i1 => by rw [z5] at i1; omega) (fun n n1 n2 n3 n4 n5 n6 n7 n8 n9 n10 n11 n12 => ?_))
  have nz : ∀ m, 59 ≤ m → ∀ i, n m i = 0 := fun m hm i => by rw [n1 m (by omega) (by omega) (by omega) (by omega) (by omega) (by omega) (by omega), f1 m (by omega)]; exact Z2_0 (by omega) (by omega)
  refine ⟨nz, spM_begins (fun b b1 b2 b3 b4 b5 b6 b7 b8 => spM_settles (n := 0) (by omega) b3 (fun m m1 m2 m3 m4 m5 m6 m7 m8 m9 m10 m11 m12 m13 m14 m15 m16 m17 => S_law hLL hs ?_))⟩
  have mc : ∀ cc, cc < 59 → m cc = n cc := fun cc hc => by rw [m1 cc (by omega) (by omega) (by omega) (by omega) (by omega) (by omega) (by omega) (by omega) (by omega) (by omega), b1 cc (by omega) (by omega) (by omega)]
  have nc : ∀ cc, cc ≠ 13 → cc ≠ 14 → cc ≠ 15 → cc ≠ 42 → cc ≠ 47 → cc ≠ 48 → cc ≠ 52 → ¬ (3 ≤ cc ∧ cc ≤ 7) → n cc = Z2 cc := fun cc h1 h2 h3 h4 h5 h6 h7 h8 => by rw [n1 cc h1 h2 h3 h4 h5 h6 h7, f1 cc (by omega)]
  have n3' : n 3 = g 3 := n1 3 (by decide) (by decide) (by decide) (by decide) (by decide) (by decide) (by decide)
  have e34 : m 3 4 = 0 := by rw [mc 3 (by decide), n3']; exact z4
  have e35 : m 3 5 = 0 := by rw [mc 3 (by decide), n3']; exact z5
  have f4 : ∀ j, 0 ≤ j → j < 4 → m 4 j = (j + 1) * (j + 1) := fun j j0 j1 => by rw [mc 4 (by decide), n1 4 (by decide) (by decide) (by decide) (by decide) (by decide) (by decide) (by decide)]; exact z1 j j0 j1
  have f6 : ∀ j, 0 ≤ j → j < 16 → m 6 j = 0 := fun j j0 j1 => by rw [mc 6 (by decide), n1 6 (by decide) (by decide) (by decide) (by decide) (by decide) (by decide) (by decide)]; exact z3 j j0 j1
  refine Inv_new ?_ m10 ⟨by rw [e34]; omega, by rw [e35]; omega, by rw [m2, e34], by rw [m3, e35]; exact b4, fun j j0 j1 => ?_, fun j j0 j1 => ?_, fun j j0 j1 => by rw [e35] at j1; omega⟩ (by rw [mc 13 (by decide)]; exact n2) (by rw [mc 13 (by decide)]; exact n3) (fun j j0 j1 => ?_) m7 m9 ?_ (by rw [mc 15 (by decide)]; exact n6) m13 (by rw [mc 42 (by decide)]; exact n7) (by rw [mc 42 (by decide)]; exact n8) m15 m16 (by rw [mc 52 (by decide)]; exact n11) (by rw [mc 52 (by decide)]; exact n12) m11 m12 (by rw [mc 52 (by decide)]; exact n10) ?_ (by rw [e34]; exact m17) ?_ ?_
  · rw [mc 1 (by decide), nc 1 (by decide) (by decide) (by decide) (by decide) (by decide) (by decide) (by decide) (by decide)]; exact Z2_0 (by omega) (by omega)
  · rw [m4 j j0 j1, b6 j j0 j1, f4 j j0 j1]
    exact ⟨rfl, four_i (P := fun j => 1 ≤ (j + 1) * (j + 1) ∧ (j + 1) * (j + 1) ≤ 20) j0 j1 (by decide) (by decide) (by decide) (by decide)⟩
  · rw [m5 j j0 j1, b8 j j0 j1, f6 j j0 j1]; exact ⟨rfl, by omega, by omega, fun _ => rfl⟩
  · rw [m8 j j0 j1, if_pos (by omega), mc 14 (by decide), n4 j j0 j1]
    have : g 5 j = 0 := z2 j j0 j1
    rw [this]
    exact ⟨rfl, by omega, by omega⟩
  · rw [mc 15 (by decide), n5, f1 15 (by omega), Z2_0 (by omega) (by omega)]; omega
  · refine Or.inl ?_
    rw [mc 43 (by decide), nc 43 (by decide) (by decide) (by decide) (by decide) (by decide) (by decide) (by decide) (by decide)]
    unfold Z2
    rw [up_eq, if_pos rfl]
  · rw [e35, ← z5, mc 7 (by decide), n1 7 (by decide) (by decide) (by decide) (by decide) (by decide) (by decide) (by decide), mc 48 (by decide)]; exact n9
  · have x1 : m 0 11 = 0 := by rw [mc 0 (by decide), nc 0 (by decide) (by decide) (by decide) (by decide) (by decide) (by decide) (by decide) (by decide)]; exact Z2_0 (by omega) (by omega)
    have x2 : m 59 1 = 0 := by rw [m14, b1 59 (by decide) (by decide) (by decide)]; exact nz 59 (by omega) 1
    rw [x1, x2]
    exact ⟨rfl, by omega, by omega⟩
