theorem thr59 {h : aH} {j : Int} (hj : ¬ j = 0) : up h 59 0 0 59 j = h 59 j := by rw [up_eq, if_neg hj]
theorem Inv.thr {c : Int} {h : aH} (i : Inv c h) : Inv (c + 1) (up h 59 0 0) :=
  i.fr (by omega) (fun k hk _ _ _ _ _ _ _ _ => up_ne hk) (by rw [up_ne (by decide)]) (thr59 (by decide)) (thr59 (by decide)) (thr59 (by decide)) (thr59 (by decide)) (thr59 (by decide))
-- holds, grows
def VH (n : Int) (f : Int → Int) (x y : Int) : Int := if (0 ≤ x ∧ x < n) ∧ (0 ≤ y ∧ y < 4) then f (4 * x + y) else -1
theorem spC_holds {x y : Int} {h : aH} {Q : Int → Prop} (hx : inR x) (hy : inR y) (hn : 0 ≤ h 3 4 ∧ h 3 4 ≤ 4) (k : Q (VH (h 3 4) (h 14) x y)) : wp_X8_holds x y h Q := by
  unfold wp_X8_holds
  refine sp_person hx hn (fun r1 hr1 => ⟨fun h0 => ?_, fun h0 => sp_sort hy (fun r3 hr3 => ⟨⟨fun _ => trivial, fun q => ⟨⟨by omega, by omega⟩, trivial⟩⟩, ?_⟩)⟩)
  · unfold VH at k
    rwa [if_neg (by omega)] at k
  · unfold VH at k
    by_cases q : r3 = 0
    · rw [if_pos q]
      rwa [if_neg (by omega)] at k
    · rw [if_neg q]
      rw [if_pos (by omega)] at k
      rwa [show x * 4 + y = 4 * x + y by omega]
theorem spM_holds {x y n : Int} {h : aH} {Q : Int → aH → Prop} (hx : inR x) (hy : inR y) (hn : 0 ≤ n ∧ n ≤ 4) (e : h 61 0 = n) (k : Q (VH n (fun i => h 66 (1 + i)) x y) (up h 59 0 0)) : wp_X9_holds x y h Q := by
  unfold wp_X9_holds
  rintro _ rfl
  refine sp_personM hx hn (by rw [up_ne (by decide)]; exact e) (fun r1 hr1 => ⟨fun h0 => ?_, fun h0 => sp_sortM hy (fun r3 hr3 => ⟨⟨fun _ => trivial, fun q => ⟨⟨by omega, by omega⟩, trivial⟩⟩, ?_⟩)⟩)
  · unfold VH at k
    rwa [if_neg (by omega)] at k
  · unfold VH at k
    by_cases q : r3 = 0
    · rw [if_pos q]
      rwa [if_neg (by omega)] at k
    · rw [if_neg q]
      rw [if_pos (by omega)] at k
      rw [up_ne (k' := 66) (by decide), show 1 + 4 * x + y = 1 + (4 * x + y) by omega]
      exact k
theorem VH_cong {n : Int} {f f' : Int → Int} {x y : Int} (hn : n ≤ 4) (hf : ∀ i, 0 ≤ i → i < 16 → f' i = f i) : VH n f' x y = VH n f x y := by
  unfold VH
  by_cases q : (0 ≤ x ∧ x < n) ∧ (0 ≤ y ∧ y < 4)
  · rw [if_pos q, if_pos q, hf _ (by omega) (by omega)]
  · rw [if_neg q, if_neg q]
theorem VH_bd {n : Int} {f : Int → Int} {x y : Int} (hn : n ≤ 4) (hf : ∀ i, 0 ≤ i → i < 16 → 0 ≤ f i ∧ f i ≤ 9) : inR (VH n f x y) := by
  unfold VH
  by_cases q : (0 ≤ x ∧ x < n) ∧ (0 ≤ y ∧ y < 4)
  · rw [if_pos q]
    have := hf (4 * x + y) (by omega) (by omega)
    exact inR_of (by omega) (by omega)
  · rw [if_neg q]; exact inR_of (by omega) (by omega)
theorem S_holds {c x y : Int} {h : aH} {K : aH → Prop} (i : Inv c h) (hx : inR x) (hy : inR y) (hK : ∀ h', Inv (c + 1) h' → K h') : wp_X8_holds x y h (fun r => wp_X9_holds x y h (fun r2 h2 => inR r ∧ inR r2 ∧ ((r = r2 → K h2) ∧ (¬ r = r2 → False)))) := by
  have il := i.2.1
  have im := i.2.2.1
  refine spC_holds hx hy il.1 (spM_holds hx hy il.1 il.2.2.1 (fin_ok ?_ ?_ (hK _ i.thr)))
  · exact (VH_cong il.1.2 (fun j h0 h1 => (im.2.2.1 j h0 h1).1)).symm
  · exact VH_bd il.1.2 (fun j h0 h1 => (im.2.2.1 j h0 h1).2)
theorem spC_grows {x y : Int} {h : aH} {Q : Int → Prop} (hx : inR x) (hy : inR y) (hn : 0 ≤ h 3 4 ∧ h 3 4 ≤ 4) (k : Q (VH (h 3 4) (h 6) x y)) : wp_X8_grows x y h Q := by
  unfold wp_X8_grows
  refine sp_person hx hn (fun r1 hr1 => ⟨fun h0 => ?_, fun h0 => sp_sort hy (fun r3 hr3 => ⟨⟨fun _ => trivial, fun q => ⟨⟨by omega, by omega⟩, trivial⟩⟩, ?_⟩)⟩)
  · unfold VH at k
    rwa [if_neg (by omega)] at k
  · unfold VH at k
    by_cases q : r3 = 0
    · rw [if_pos q]
      rwa [if_neg (by omega)] at k
    · rw [if_neg q]
      rw [if_pos (by omega)] at k
      rwa [show x * 4 + y = 4 * x + y by omega]
theorem spM_grows {x y n : Int} {h : aH} {Q : Int → aH → Prop} (hx : inR x) (hy : inR y) (hn : 0 ≤ n ∧ n ≤ 4) (e : h 61 0 = n) (k : Q (VH n (h 64) x y) (up h 59 0 0)) : wp_X9_grows x y h Q := by
  unfold wp_X9_grows
  rintro _ rfl
  refine sp_personM hx hn (by rw [up_ne (by decide)]; exact e) (fun r1 hr1 => ⟨fun h0 => ?_, fun h0 => sp_sortM hy (fun r3 hr3 => ⟨⟨fun _ => trivial, fun q => ⟨⟨by omega, by omega⟩, trivial⟩⟩, ?_⟩)⟩)
  · unfold VH at k
    rwa [if_neg (by omega)] at k
  · unfold VH at k
    by_cases q : r3 = 0
    · rw [if_pos q]
      rwa [if_neg (by omega)] at k
    · rw [if_neg q]
      rw [if_pos (by omega)] at k
      rw [up_ne (k' := 64) (by decide)]
      exact k
theorem S_grows {c x y : Int} {h : aH} {K : aH → Prop} (i : Inv c h) (hx : inR x) (hy : inR y) (hK : ∀ h', Inv (c + 1) h' → K h') : wp_X8_grows x y h (fun r => wp_X9_grows x y h (fun r2 h2 => inR r ∧ inR r2 ∧ ((r = r2 → K h2) ∧ (¬ r = r2 → False)))) := by
  have il := i.2.1
  refine spC_grows hx hy il.1 (spM_grows hx hy il.1 il.2.2.1 (fin_ok ?_ ?_ (hK _ i.thr)))
  · exact (VH_cong il.1.2 (fun j h0 h1 => (il.2.2.2.2.2.1 j h0 h1).1)).symm
  · exact VH_bd il.1.2 (fun j h0 h1 => by have := il.2.2.2.2.2.1 j h0 h1; omega)
-- weight
def VW (pc : Int) (w b : Int → Int) (x : Int) : Int := if 0 ≤ x ∧ x < 4 then w x else if 4 ≤ x ∧ x ≤ 8 then (if pc ≤ x - 4 then -9 else b (x - 4)) else -1
theorem spC_weight {x : Int} {h : aH} {Q : Int → Prop} (hx : inR x) (hp : 0 ≤ h 3 5 ∧ h 3 5 ≤ 5) (k : Q (VW (h 3 5) (h 4) (h 7) x)) : wp_X8_weight x h Q := by
  unfold wp_X8_weight
  refine sp_sort hx (fun r1 hr1 => ⟨fun h0 => sp_within2 hx (inR_of (by omega) (by omega)) (inR_of (by omega) (by omega)) (fun q => ?_) (fun q1 q2 => ?_), fun h0 => ⟨⟨by omega, by omega⟩, ?_⟩⟩)
  · unfold VW at k
    rwa [if_neg (by omega), if_neg (by omega)] at k
  · rintro _ rfl
    refine ⟨⟨inR_of (by omega) (by omega), inR_of (by omega) (by omega), fun _ => trivial, fun _ => ⟨⟨by omega, by omega⟩, trivial⟩⟩, ?_⟩
    unfold VW at k
    rwa [if_neg (by omega), if_pos (by omega)] at k
  · unfold VW at k
    rwa [if_pos (by omega)] at k
theorem spM_weight {x pc : Int} {h : aH} {Q : Int → aH → Prop} (hx : inR x) (hp : 0 ≤ pc ∧ pc ≤ 5) (e : h 61 1 = pc) (k : Q (VW pc (h 62) (h 65) x) (up h 59 0 0)) : wp_X9_weight x h Q := by
  unfold wp_X9_weight
  rintro _ rfl
  rw [up_ne (k' := 61) (by decide), up_ne (k' := 62) (by decide), up_ne (k' := 65) (by decide), e]
  refine sp_in2 hx inR0 (inR_of (by omega) (by omega)) (fun q => ?_) (fun q1 q2 => ⟨⟨hx, fun q => ⟨inR_of (by omega) (by omega), inR_of (by omega) (by omega), fun _ => trivial, fun _ => ⟨⟨by omega, by omega⟩, trivial⟩⟩, fun q => ⟨⟨by omega, by omega⟩, trivial⟩⟩, ?_⟩)
  · unfold VW at k
    rwa [if_neg (by omega), if_neg (by omega)] at k
  · unfold VW at k
    by_cases q : 4 ≤ x
    · rw [if_pos q]
      rwa [if_neg (by omega), if_pos (by omega)] at k
    · rw [if_neg q]
      rwa [if_pos (by omega)] at k
theorem S_weight {c x : Int} {h : aH} {K : aH → Prop} (i : Inv c h) (hx : inR x) (hK : ∀ h', Inv (c + 1) h' → K h') : wp_X8_weight x h (fun r => wp_X9_weight x h (fun r2 h2 => inR r ∧ inR r2 ∧ ((r = r2 → K h2) ∧ (¬ r = r2 → False)))) := by
  obtain ⟨hn, hp, e1, e2, hw, hg, hb⟩ := i.2.1
  refine spC_weight hx hp (spM_weight hx hp e2 (fin_ok ?_ ?_ (hK _ i.thr)))
  · unfold VW
    by_cases q1 : 0 ≤ x ∧ x < 4
    · rw [if_pos q1, if_pos q1, (hw x q1.1 q1.2).1]
    · rw [if_neg q1, if_neg q1]
      by_cases q2 : 4 ≤ x ∧ x ≤ 8
      · rw [if_pos q2, if_pos q2]
        by_cases q3 : h 3 5 ≤ x - 4
        · rw [if_pos q3, if_pos q3]
        · rw [if_neg q3, if_neg q3, (hb (x - 4) (by omega) (by omega)).1]
      · rw [if_neg q2, if_neg q2]
  · unfold VW
    by_cases q1 : 0 ≤ x ∧ x < 4
    · rw [if_pos q1]
      have := hw x q1.1 q1.2
      exact inR_of (by omega) (by omega)
    · rw [if_neg q1]
      by_cases q2 : 4 ≤ x ∧ x ≤ 8
      · rw [if_pos q2]
        by_cases q3 : h 3 5 ≤ x - 4
        · rw [if_pos q3]; exact inR_of (by omega) (by omega)
        · rw [if_neg q3]
          have := hb (x - 4) (by omega) (by omega)
          exact inR_of (by omega) (by omega)
      · rw [if_neg q2]; exact inR_of (by omega) (by omega)
-- heaviness as class and reference have it
theorem Inv.hvM {c : Int} {h : aH} (i : Inv c h) {p : Int} (hp : 0 ≤ p ∧ p < 4) : hv (h 62) (fun j => h 66 (1 + j)) p = hv (h 4) (h 14) p := hv_cong hp (fun j h0 h1 => (i.2.1.2.2.2.2.1 j h0 h1).1) (fun j h0 h1 => (i.2.2.1.2.2.1 j h0 h1).1)
theorem Inv.hvB {c : Int} {h : aH} (i : Inv c h) {p : Int} (hp : 0 ≤ p ∧ p < 4) : 0 ≤ hv (h 4) (h 14) p ∧ hv (h 4) (h 14) p ≤ 720 := hv_bd hp (fun j h0 h1 => (i.2.1.2.2.2.2.1 j h0 h1).2) (fun j h0 h1 => (i.2.2.1.2.2.1 j h0 h1).2)
theorem Inv.held {c : Int} {h : aH} (i : Inv c h) : ∀ j, 0 ≤ j → j < 16 → 0 ≤ h 14 j ∧ h 14 j ≤ 9 := fun j h0 h1 => (i.2.2.1.2.2.1 j h0 h1).2
theorem Inv.grw {c : Int} {h : aH} (i : Inv c h) : ∀ j, 0 ≤ j → j < 16 → 0 ≤ h 6 j ∧ h 6 j ≤ 3 := fun j h0 h1 => by have := i.2.1.2.2.2.2.2.1 j h0 h1; omega
theorem sp_heaviM {p : Int} {h : aH} {Q : Int → Prop} (hp : 0 ≤ p ∧ p < 4) (k : Q (hv (h 62) (fun i => h 66 (1 + i)) p)) : wp_X9_heaviness p (up h 59 0 0) Q := by
  refine sp_heavinessM hp ?_
  rw [up_ne (k' := 62) (by decide), up_ne (k' := 66) (by decide)]
  exact k
theorem S_heavy {c x : Int} {h : aH} {K : aH → Prop} (i : Inv c h) (hx : inR x) (hK : ∀ h', Inv (c + 1) h' → K h') : wp_X8_heavy x h (fun r => wp_X9_heavy x h (fun r2 h2 => inR r ∧ inR r2 ∧ ((r = r2 → K h2) ∧ (¬ r = r2 → False)))) := by
  have hn := i.2.1.1
  have e := i.2.1.2.2.1
  have M : ∀ (r : Int), inR r → ((0 ≤ x ∧ x < h 3 4) → r = hv (h 4) (h 14) x) → (¬ (0 ≤ x ∧ x < h 3 4) → r = -1) → wp_X9_heavy x h (fun r2 h2 => inR r ∧ inR r2 ∧ ((r = r2 → K h2) ∧ (¬ r = r2 → False))) := by
    intro r hr h1 h2
    unfold wp_X9_heavy
    rintro _ rfl
    refine sp_personM hx hn (by rw [up_ne (by decide)]; exact e) (fun r1 hr1 => ⟨fun h0 => fin_ok (h2 (by omega)) hr (hK _ i.thr), fun h0 => sp_heaviM (by omega) (fin_ok ?_ hr (hK _ i.thr))⟩)
    rw [i.hvM (by omega)]
    exact h1 (by omega)
  unfold wp_X8_heavy
  refine sp_person hx hn (fun r1 hr1 => ⟨fun h0 => M _ (inR_of (by omega) (by omega)) (fun q => by omega) (fun _ => rfl), fun h0 => sp_heavi (by omega) i.held i.grw (M _ ?_ (fun _ => rfl) (fun q => by omega))⟩)
  have := i.hvB (p := x) (by omega)
  exact inR_of (by omega) (by omega)
theorem S_beam {c x y : Int} {h : aH} {K : aH → Prop} (i : Inv c h) (hx : inR x) (hy : inR y) (hK : ∀ h', Inv (c + 1) h' → K h') : wp_X8_beam x y h (fun r => wp_X9_beam x y h (fun r2 h2 => inR r ∧ inR r2 ∧ ((r = r2 → K h2) ∧ (¬ r = r2 → False)))) := by
  have hn := i.2.1.1
  have e := i.2.1.2.2.1
  have M : ∀ (r : Int), inR r → (((0 ≤ x ∧ x < h 3 4) ∧ (0 ≤ y ∧ y < h 3 4) ∧ ¬ x = y) → r = hv (h 4) (h 14) x - hv (h 4) (h 14) y) → (¬ ((0 ≤ x ∧ x < h 3 4) ∧ (0 ≤ y ∧ y < h 3 4) ∧ ¬ x = y) → r = -1000000) → wp_X9_beam x y h (fun r2 h2 => inR r ∧ inR r2 ∧ ((r = r2 → K h2) ∧ (¬ r = r2 → False))) := by
    intro r hr h1 h2
    unfold wp_X9_beam
    rintro _ rfl
    refine sp_pairM hx hy hn (by rw [up_ne (by decide)]; exact e) (fun r1 hr1 => ⟨fun h0 => fin_ok (h2 (by omega)) hr (hK _ i.thr), fun h0 => sp_heaviM (by omega) (sp_heaviM (by omega) (fin_ok ?_ hr (hK _ i.thr)))⟩)
    rw [i.hvM (by omega), i.hvM (by omega)]
    exact h1 (by omega)
  unfold wp_X8_beam
  refine sp_pair hx hy hn (fun r1 hr1 => ⟨fun h0 => M _ (inR_of (by omega) (by omega)) (fun q => by omega) (fun _ => rfl), fun h0 => sp_heavi (by omega) i.held i.grw (sp_heavi (by omega) i.held i.grw (M _ ?_ (fun _ => rfl) (fun q => by omega)))⟩)
  have b1 := i.hvB (p := x) (by omega)
  have b2 := i.hvB (p := y) (by omega)
  exact inR_of (by omega) (by omega)
-- count, trace
theorem S_count {c x : Int} {h : aH} {K : aH → Prop} (i : Inv c h) (hx : inR x) (hK : ∀ h', Inv (c + 1) h' → K h') : wp_X8_count x h (fun r => wp_X9_count x h (fun r2 h2 => inR r ∧ inR r2 ∧ ((r = r2 → K h2) ∧ (¬ r = r2 → False)))) := by
  obtain ⟨hn, hp, e1, e2, -⟩ := i.2.1
  obtain ⟨t1, t2, t3, -⟩ := i.1
  obtain ⟨⟨s1, s2, s3, -⟩, ⟨s4, s5, s6, -⟩⟩ := i.2.2.2.2.2.1
  have M : ∀ (r : Int), inR r → ((x < 0 ∨ 4 < x) → r = -1) → (x = 0 → r = h 61 0) → (x = 1 → r = h 61 1) → (x = 2 → r = h 59 22) → (x = 3 → r = h 59 25) → (x = 4 → r = h 59 3) → wp_X9_count x h (fun r2 h2 => inR r ∧ inR r2 ∧ ((r = r2 → K h2) ∧ (¬ r = r2 → False))) := by
    intro r hr h1 h2 h3 h4 h5 h6
    unfold wp_X9_count
    rintro _ rfl
    rw [up_ne (k' := 61) (by decide), thr59 (j := 22) (by decide), thr59 (j := 25) (by decide), thr59 (j := 3) (by decide)]
    refine sp_in hx inR0 (inR_of (by omega) (by omega)) (fun r1 hr1 => ⟨⟨fun _ => ⟨hx, trivial⟩, fun q => ⟨⟨by omega, by omega⟩, trivial⟩⟩, fin_ok ?_ hr (hK _ i.thr)⟩)
    by_cases q : r1 = 0
    · rw [if_pos q]
      by_cases q2 : x = 2
      · rw [if_pos q2]; exact h4 q2
      · rw [if_neg q2]
        by_cases q3 : x = 3
        · rw [if_pos q3]; exact h5 q3
        · rw [if_neg q3]
          by_cases q4 : x = 4
          · rw [if_pos q4]; exact h6 q4
          · rw [if_neg q4]; exact h1 (by omega)
    · rw [if_neg q]
      by_cases q2 : x = 0
      · rw [q2]; exact h2 q2
      · have q3 : x = 1 := by omega
        rw [q3]; exact h3 q3
  unfold wp_X8_count
  refine ⟨hx, fun q => M _ (inR_of (by omega) (by omega)) (fun _ => rfl) (fun z => by omega) (fun z => by omega) (fun z => by omega) (fun z => by omega) (fun z => by omega), fun q => M _ (inR_of (by omega) (by omega)) (fun z => by omega) (fun _ => e1.symm) (fun z => by omega) (fun z => by omega) (fun z => by omega) (fun z => by omega), fun q => M _ (inR_of (by omega) (by omega)) (fun z => by omega) (fun z => by omega) (fun _ => e2.symm) (fun z => by omega) (fun z => by omega) (fun z => by omega), fun q => M _ (inR_of (by omega) (by omega)) (fun z => by omega) (fun z => by omega) (fun z => by omega) (fun _ => s1.symm) (fun z => by omega) (fun z => by omega), fun q => M _ (inR_of (by omega) (by omega)) (fun z => by omega) (fun z => by omega) (fun z => by omega) (fun z => by omega) (fun _ => s4.symm) (fun z => by omega), fun q => M _ (inR_of (by omega) (by omega)) (fun z => by omega) (fun z => by omega) (fun z => by omega) (fun z => by omega) (fun z => by omega) (fun _ => t1)⟩
theorem S_trace {c : Int} {h : aH} (i : Inv c h) {Q : Int → Int → aH → Prop} (hK : ∀ h', Inv (c + 1) h' → Q (h 0 11) (h 0 11) h') : wp_X8_trace h (fun r => wp_X9_trace h (fun r2 h2 => Q r r2 h2)) := by
  unfold wp_X8_trace wp_X9_trace
  rintro _ rfl
  rw [thr59 (by decide), i.2.2.2.2.2.2.2.2.2.2.1]
  exact hK _ i.thr
