-- laws
theorem sp_fill {k len : Nat} {x : Int} {h : aH} {Q : aH → Prop} (hl : (len : Int) < 2147483648) (kk : ∀ h', (∀ c, c ≠ k → h' c = h c) → (∀ j : Int, 0 ≤ j → j < (len : Int) → h' k j = x) → Q h') : wp_J7_fill_53178 k len x h Q := by
  unfold wp_J7_fill_53178
  rintro _ rfl
  refine lp.rule (μ := fun y => ((len : Int) + 1 - y.1).toNat) (I := fun y => (0 ≤ y.1 ∧ y.1 ≤ (len : Int)) ∧ (∀ c, c ≠ k → y.2 c = h c) ∧ ∀ j : Int, 0 ≤ j → j < y.1 → y.2 k j = x) ?_ (0, h) ⟨⟨by omega, by dsimp only; omega⟩, fun _ _ => rfl, fun j j0 j1 => absurd (show j < 0 from j1) (by omega)⟩
  rintro X ⟨t, f⟩ ⟨⟨t0, t1⟩, f1, f2⟩ hX
  dsimp only at t0 t1 f1 f2 ⊢
  unfold wp_J7_fill_53178_B5
  refine ⟨inR_of (by omega) (by omega), inR_of (by omega) (by omega), fun q => kk f f1 (fun j j0 j1 => f2 j j0 (by omega)), fun q => ⟨⟨by omega, by omega⟩, ?_⟩⟩
  rintro _ rfl
  refine hX _ ⟨⟨by dsimp only; omega, by dsimp only; omega⟩, fun c hc => ?_, fun j j0 j1 => ?_⟩ (by dsimp only; omega)
  · dsimp only; rw [up_ne hc, f1 c hc]
  · dsimp only at j1 ⊢
    rw [up_eq]
    by_cases hj : j = t
    · rw [if_pos hj]
    · rw [if_neg hj]; exact f2 j j0 (by omega)
theorem sp_weighsOf {x : Int} {h : aH} {Q : Int → Prop} (hx : 0 ≤ x ∧ x < 10000) (k : Q (wof (h 62) x.toNat)) : wp_X9_weighsOf x h Q := by
  unfold wp_X9_weighsOf
  obtain ⟨u, rfl⟩ : ∃ u : Nat, x = (u : Int) := ⟨x.toNat, by omega⟩
  refine ⟨by omega, by omega, by omega, ?_⟩
  unfold wof at k
  rw [show ((u : Nat) : Int).toNat = u by omega, show ((u / 1000 : Nat) : Int) = (u : Int) / 1000 by omega, show ((u / 100 % 10 : Nat) : Int) = (u : Int) / 100 % 10 by omega, show ((u / 10 % 10 : Nat) : Int) = (u : Int) / 10 % 10 by omega, show ((u % 10 : Nat) : Int) = (u : Int) % 10 by omega] at k
  exact k
theorem wof_cong {w w' : Int → Int} {v : Nat} (hw : ∀ i, 0 ≤ i → i < 4 → w' i = w i) : wof w' v = wof w v := by
  unfold wof
  rw [hw 0 (by omega) (by omega), hw 1 (by omega) (by omega), hw 2 (by omega) (by omega), hw 3 (by omega) (by omega)]
theorem wof_bd {w : Int → Int} {v : Nat} (hv' : v < 10000) (hw : ∀ i, 0 ≤ i → i < 4 → 1 ≤ w i ∧ w i ≤ 20) : 0 ≤ wof w v ∧ wof w v ≤ 720 := by
  unfold wof
  have w0 := hw 0 (by omega) (by omega)
  have w1 := hw 1 (by omega) (by omega)
  have w2 := hw 2 (by omega) (by omega)
  have w3 := hw 3 (by omega) (by omega)
  have m0 := mul_bd (a := w 0) (b := ((v / 1000 : Nat) : Int)) (A := 20) (B := 9) (by omega) (by omega) (by omega) (by omega)
  have m1 := mul_bd (a := w 1) (b := ((v / 100 % 10 : Nat) : Int)) (A := 20) (B := 9) (by omega) (by omega) (by omega) (by omega)
  have m2 := mul_bd (a := w 2) (b := ((v / 10 % 10 : Nat) : Int)) (A := 20) (B := 9) (by omega) (by omega) (by omega) (by omega)
  have m3 := mul_bd (a := w 3) (b := ((v % 10 : Nat) : Int)) (A := 20) (B := 9) (by omega) (by omega) (by omega) (by omega)
  omega
def figs (t : Nat) : Nat := 1000 * (t / 64) + 100 * (t / 16 % 4) + 10 * (t / 4 % 4) + t % 4
theorem figs_lt {t : Nat} (ht : t < 256) : figs t < 10000 := by unfold figs; omega
theorem figs_all : (List.range 256).all (fun t => decide (((figs t / 1000 : Nat) : Int) = (t : Int) / 4 / 4 / 4 % 4 ∧ ((figs t / 100 % 10 : Nat) : Int) = (t : Int) / 4 / 4 % 4 ∧ ((figs t / 10 % 10 : Nat) : Int) = (t : Int) / 4 % 4 ∧ ((figs t % 10 : Nat) : Int) = (t : Int) % 4)) = true := by decide +kernel
theorem figs_e {t : Nat} (ht : t < 256) : ((figs t / 1000 : Nat) : Int) = (t : Int) / 4 / 4 / 4 % 4 ∧ ((figs t / 100 % 10 : Nat) : Int) = (t : Int) / 4 / 4 % 4 ∧ ((figs t / 10 % 10 : Nat) : Int) = (t : Int) / 4 % 4 ∧ ((figs t % 10 : Nat) : Int) = (t : Int) % 4 := of_decide_eq_true (List.all_eq_true.mp figs_all t (List.mem_range.mpr ht))
theorem wof_figs {w : Int → Int} {t : Nat} (ht : t < 256) : wof w (figs t) = ((t : Int) % 4) * w 3 + ((t : Int) / 4 % 4) * w 2 + ((t : Int) / 4 / 4 % 4) * w 1 + ((t : Int) / 4 / 4 / 4 % 4) * w 0 := by
  unfold wof
  have a := figs_e ht
  rw [a.1, a.2.1, a.2.2.1, a.2.2.2, Int.mul_comm (w 0), Int.mul_comm (w 1), Int.mul_comm (w 2), Int.mul_comm (w 3)]
  omega
theorem sp_gainOf {t : Nat} {h : aH} {Q : Int → Prop} (ht : t < 256) (k : Q (wof (h 4) (figs t))) : wp_X1_gainOf t h Q := by
  unfold wp_X1_gainOf
  refine ⟨5, ?_⟩
  simp only [lpN]
  unfold wp_X1_gainOf_B7
  refine ⟨inR_of (by omega) (by omega), fun q => absurd q (by decide), fun _ => ⟨⟨by omega, by omega⟩, ⟨by omega, by omega⟩, ?_⟩⟩
  rintro _ rfl
  rintro _ rfl
  try dsimp only
  refine ⟨inR_of (by omega) (by omega), fun q => absurd q (by decide), fun _ => ⟨⟨by omega, by omega⟩, ⟨by omega, by omega⟩, ?_⟩⟩
  rintro _ rfl
  rintro _ rfl
  refine ⟨inR_of (by omega) (by omega), fun q => absurd q (by decide), fun _ => ⟨⟨by omega, by omega⟩, ⟨by omega, by omega⟩, ?_⟩⟩
  rintro _ rfl
  rintro _ rfl
  try dsimp only
  refine ⟨inR_of (by omega) (by omega), fun q => absurd q (by decide), fun _ => ⟨⟨by omega, by omega⟩, ⟨by omega, by omega⟩, ?_⟩⟩
  rintro _ rfl
  rintro _ rfl
  try dsimp only
  refine ⟨inR_of (by omega) (by omega), fun _ => ?_, fun q => absurd (show (3 : Int) + -1 + -1 + -1 + -1 < 0 by decide) q⟩
  rw [wof_figs ht] at k
  rw [show (3 : Int) + -1 + -1 + -1 = 0 from rfl, show (3 : Int) + -1 + -1 = 1 from rfl, show (3 : Int) + -1 = 2 from rfl, Int.zero_add]
  exact k
theorem sp_figuresOf {t : Nat} {h : aH} {Q : Int → Prop} (ht : t < 256) (k : Q (figs t : Int)) : wp_X1_figuresOf t h Q := by
  unfold wp_X1_figuresOf
  refine ⟨5, ?_⟩
  simp only [lpN]
  unfold wp_X1_figuresOf_B9
  refine ⟨inR_of (by omega) (by omega), fun q => absurd q (by decide), fun _ => ⟨⟨by omega, by omega⟩, ?_⟩⟩
  rintro _ rfl
  rintro _ rfl
  rintro _ rfl
  try dsimp only
  refine ⟨inR_of (by omega) (by omega), fun q => absurd q (by decide), fun _ => ⟨⟨by omega, by omega⟩, ?_⟩⟩
  rintro _ rfl
  rintro _ rfl
  rintro _ rfl
  refine ⟨inR_of (by omega) (by omega), fun q => absurd q (by decide), fun _ => ⟨⟨by omega, by omega⟩, ?_⟩⟩
  rintro _ rfl
  rintro _ rfl
  rintro _ rfl
  try dsimp only
  refine ⟨inR_of (by omega) (by omega), fun q => absurd q (by decide), fun _ => ⟨⟨by omega, by omega⟩, ?_⟩⟩
  rintro _ rfl
  rintro _ rfl
  rintro _ rfl
  try dsimp only
  refine ⟨inR_of (by omega) (by omega), fun _ => ?_, fun q => absurd (show (4 : Int) ≤ 0 + 1 + 1 + 1 + 1 by decide) q⟩
  have e : (0 + (t : Int) % 4 * 1 + (t : Int) / 4 % 4 * (1 * 10) + (t : Int) / 4 / 4 % 4 * (1 * 10 * 10) + (t : Int) / 4 / 4 / 4 % 4 * (1 * 10 * 10 * 10)) = (figs t : Int) := by unfold figs; omega
  rw [e]
  exact k
/-- what was seen of x fits with v -/
def fitB (c : Int) (a b : Int → Int) (x v : Int) : Bool := (List.range c.toNat).all (fun j => !(decide (a (j : Int) = x)) || decide (b (j : Int) = v))
theorem fitB_iff {c : Int} {a b : Int → Int} {x v : Int} : fitB c a b x v = true ↔ ∀ j : Int, 0 ≤ j → j < c → a j = x → b j = v := by
  unfold fitB
  rw [List.all_eq_true]
  constructor
  · intro h j j0 j1 e
    have := h j.toNat (List.mem_range.mpr (by omega))
    rw [show ((j.toNat : Nat) : Int) = j by omega] at this
    simpa [e] using this
  · intro h j hj
    have hj' := List.mem_range.mp hj
    by_cases e : a (j : Int) = x
    · have := h j (by omega) (by omega) e
      simp [e, this]
    · simp [e]
theorem fitB_cong {c : Int} {a b a' b' : Int → Int} {x v : Int} (e : ∀ j : Int, 0 ≤ j → j < c → a' j = a j ∧ b' j = b j) : fitB c a' b' x v = fitB c a b x v := by
  rw [Bool.eq_iff_iff, fitB_iff, fitB_iff]
  constructor
  · intro h j j0 j1 q
    rw [← (e j j0 j1).2]; exact h j j0 j1 (by rw [(e j j0 j1).1]; exact q)
  · intro h j j0 j1 q
    rw [(e j j0 j1).2]; exact h j j0 j1 (by rw [← (e j j0 j1).1]; exact q)
theorem sp_fits {x v : Int} {h : aH} {Q : Int → Prop} (hx : inR x) (hv' : inR v) (hc : 0 ≤ h 52 8 ∧ h 52 8 ≤ 6) (ha : ∀ j, 0 ≤ j → j < h 52 8 → inR (h 56 j) ∧ inR (h 57 j)) (k : Q (if fitB (h 52 8) (h 56) (h 57) x v then 1 else 0)) : wp_X1_fits x v h Q := by
  unfold wp_X1_fits
  refine lp.rule (μ := fun y => (7 - y).toNat) (I := fun y => (0 ≤ y ∧ y ≤ h 52 8) ∧ ∀ j : Int, 0 ≤ j → j < y → h 56 j = x → h 57 j = v) ?_ 0 ⟨⟨by omega, by omega⟩, fun j j0 j1 => by omega⟩
  rintro X t ⟨⟨t0, t1⟩, f⟩ hX
  unfold wp_X1_fits_B2 wp_X1_fits_J32
  have nx : (h 56 t = x → h 57 t = v) → t < h 52 8 → X (t + 1) := fun q q2 => hX _ ⟨⟨by omega, by omega⟩, fun j j0 j1 e => by
    by_cases hj : j = t
    · rw [hj] at e ⊢; exact q e
    · exact f j j0 (by omega) e⟩ (by omega)
  refine ⟨inR_of (by omega) (by omega), inR_of (by omega) (by omega), fun q => ?_, fun q => ⟨⟨by omega, by omega⟩, (ha t t0 (by omega)).1, hx, fun q2 => ⟨(ha t t0 (by omega)).2, hv', fun q3 => nx (fun _ => q3) (by omega), fun q3 => ?_⟩, fun q2 => nx (fun q3 => absurd q3 q2) (by omega)⟩⟩
  · rw [if_pos (fitB_iff.mpr (fun j j0 j1 => f j j0 (by omega)))] at k; exact k
  · rw [if_neg (fun q4 => q3 (fitB_iff.mp q4 t t0 (by omega) q2))] at k; exact k
def fsN (p : Nat → Bool) (g : Nat → Int) : Nat → Int
  | 0 => -9
  | k + 1 => if p k ∧ ctN p k = 0 then g k else fsN p g k
theorem fsN_none {p : Nat → Bool} {g : Nat → Int} : ∀ {m : Nat}, ctN p m = 0 → fsN p g m = -9
  | 0, _ => rfl
  | m + 1, h => by
    unfold ctN at h
    unfold fsN
    by_cases q : p m = true
    · rw [if_pos q] at h; omega
    · rw [if_neg (fun z => q z.1)]; exact fsN_none (by omega)
theorem ctN_mono {p : Nat → Bool} : ∀ {m k : Nat}, k ≤ m → ctN p k ≤ ctN p m
  | 0, k, h => by rw [show k = 0 by omega]; exact Nat.le_refl _
  | m + 1, k, h => by
    by_cases e : k = m + 1
    · rw [e]; exact Nat.le_refl _
    · have := ctN_mono (p := p) (m := m) (k := k) (by omega)
      have e2 : ctN p (m + 1) = ctN p m + if p m then 1 else 0 := rfl
      rw [e2]; omega
theorem fsN_at {p : Nat → Bool} {g : Nat → Int} {t : Nat} (h0 : ctN p t = 0) (ht : p t = true) : ∀ {m : Nat}, t < m → fsN p g m = g t
  | 0, h => by omega
  | m + 1, h => by
    by_cases e : t = m
    · subst e
      unfold fsN
      rw [if_pos ⟨ht, h0⟩]
    · have a := fsN_at (g := g) h0 ht (m := m) (by omega)
      have b : 1 ≤ ctN p m := by
        have := ctN_mono (p := p) (m := m) (k := t + 1) (by omega)
        have e2 : ctN p (t + 1) = ctN p t + if p t then 1 else 0 := rfl
        rw [e2, if_pos ht] at this
        omega
      unfold fsN
      rw [if_neg (fun z => by omega), a]
theorem ctN_s {p : Nat → Bool} {k : Nat} : ctN p (k + 1) = ctN p k + if p k then 1 else 0 := rfl
theorem fsN_s {p : Nat → Bool} {g : Nat → Int} {k : Nat} : fsN p g (k + 1) = if p k ∧ ctN p k = 0 then g k else fsN p g k := rfl
theorem bs_all : (List.range 256).all (fun t => (1000 * bshr t 6 + 100 * band (bshr t 4) 3 + 10 * band (bshr t 2) 3 + band t 3) == (figs t : Int)) = true := by decide +kernel
theorem bs_figs {t : Nat} (ht : t < 256) : (1000 * bshr t 6 + 100 * band (bshr t 4) 3 + 10 * band (bshr t 2) 3 + band t 3) = (figs t : Int) := eq_of_beq (List.all_eq_true.mp bs_all t (List.mem_range.mpr ht))
theorem sp_lawsOf {x : Int} {h : aH} {Q : Int → Prop} (hx : inR x) (hw : ∀ i, 0 ≤ i → i < 4 → 1 ≤ h 4 i ∧ h 4 i ≤ 20) (hc : 0 ≤ h 52 8 ∧ h 52 8 ≤ 6) (ha : ∀ j, 0 ≤ j → j < h 52 8 → inR (h 56 j) ∧ inR (h 57 j)) (k : Q (ctN (fun t => fitB (h 52 8) (h 56) (h 57) x (wof (h 4) (figs t))) 256 : Nat)) : wp_X1_lawsOf x h Q := by
  unfold wp_X1_lawsOf
  refine lp.rule (μ := fun y => (257 - y.2).toNat) (I := fun y => (0 ≤ y.2 ∧ y.2 ≤ 256) ∧ y.1 = ((ctN (fun t => fitB (h 52 8) (h 56) (h 57) x (wof (h 4) (figs t))) y.2.toNat : Nat) : Int)) ?_ (0, 0) ⟨⟨by omega, by dsimp only; omega⟩, rfl⟩
  rintro X ⟨s, t⟩ ⟨⟨t0, t1⟩, hs⟩ hX
  dsimp only at t0 t1 hs ⊢
  unfold wp_X1_lawsOf_B5
  obtain ⟨u, rfl⟩ : ∃ u : Nat, t = (u : Int) := ⟨t.toNat, by omega⟩
  rw [show ((u : Nat) : Int).toNat = u by omega] at hs
  refine ⟨inR_of (by omega) (by omega), fun q => ?_, fun q => ?_⟩
  · rw [hs, show u = 256 by omega]; exact k
  · have b := wof_bd (figs_lt (t := u) (by omega)) hw
    refine sp_gainOf (by omega) (sp_fits hx (inR_of (by omega) (by omega)) hc ha ?_)
    refine hX _ ⟨⟨by dsimp only; omega, by dsimp only; omega⟩, ?_⟩ (by dsimp only; omega)
    dsimp only
    rw [show ((u : Int) + 1).toNat = u + 1 by omega, ctN_s, hs]
    cases fitB (h 52 8) (h 56) (h 57) x (wof (h 4) (figs u)) <;> simp
theorem sp_firstLawOf {x : Int} {h : aH} {Q : Int → Prop} (hx : inR x) (hw : ∀ i, 0 ≤ i → i < 4 → 1 ≤ h 4 i ∧ h 4 i ≤ 20) (hc : 0 ≤ h 52 8 ∧ h 52 8 ≤ 6) (ha : ∀ j, 0 ≤ j → j < h 52 8 → inR (h 56 j) ∧ inR (h 57 j)) (k : Q (fsN (fun t => fitB (h 52 8) (h 56) (h 57) x (wof (h 4) (figs t))) (fun t => (figs t : Int)) 256)) : wp_X1_firstLawOf x h Q := by
  unfold wp_X1_firstLawOf
  refine lp.rule (μ := fun y => (257 - y).toNat) (I := fun y => (0 ≤ y ∧ y ≤ 256) ∧ ctN (fun t => fitB (h 52 8) (h 56) (h 57) x (wof (h 4) (figs t))) y.toNat = 0) ?_ 0 ⟨⟨by omega, by omega⟩, rfl⟩
  rintro X t ⟨⟨t0, t1⟩, hs⟩ hX
  unfold wp_X1_firstLawOf_B2
  obtain ⟨u, rfl⟩ : ∃ u : Nat, t = (u : Int) := ⟨t.toNat, by omega⟩
  rw [show ((u : Nat) : Int).toNat = u by omega] at hs
  refine ⟨inR_of (by omega) (by omega), fun q => ?_, fun q => ?_⟩
  · rw [show u = 256 by omega] at hs
    rw [fsN_none hs] at k; exact k
  · have b := wof_bd (figs_lt (t := u) (by omega)) hw
    refine sp_gainOf (by omega) (sp_fits hx (inR_of (by omega) (by omega)) hc ha ⟨fun q2 => ?_, fun q2 => sp_figuresOf (by omega) ?_⟩)
    · refine hX _ ⟨⟨by omega, by omega⟩, ?_⟩ (by omega)
      rw [show ((u : Int) + 1).toNat = u + 1 by omega, ctN_s, hs]
      by_cases q3 : fitB (h 52 8) (h 56) (h 57) x (wof (h 4) (figs u)) = true
      · rw [if_pos q3] at q2; omega
      · rw [if_neg q3]
    · by_cases q3 : fitB (h 52 8) (h 56) (h 57) x (wof (h 4) (figs u)) = true
      · rw [fsN_at (t := u) hs q3 (by omega)] at k; exact k
      · rw [if_neg q3] at q2; exact absurd rfl q2
theorem spM_lawsIn {x : Int} {h1 : aH} {X33 : Int × Int × Int → Prop} {x3 x4 x5 : Int} {u : Nat} (hx : inR x) (hu : u < 10000) (hw : ∀ i, 0 ≤ i → i < 4 → 1 ≤ h1 62 i ∧ h1 62 i ≤ 20) (hc : 0 ≤ h1 59 25 ∧ h1 59 25 ≤ 6) (ha : ∀ j, 0 ≤ j → j < h1 59 25 → inR (h1 73 j) ∧ inR (h1 74 j)) (h3 : inR x3) (kk : X33 (x3 + (if fitB (h1 59 25) (h1 73) (h1 74) x (wof (h1 62) u) then 1 else 0), (if fitB (h1 59 25) (h1 73) (h1 74) x (wof (h1 62) u) then (if x3 = 0 then (u : Int) else x4) else x4), x5 + 1)) : lp (fun X y => wp_X9_laws_B83 x h1 X33 x3 x4 x5 (u : Int) X y.1 y.2) (1, 0) := by
  refine lp.rule (μ := fun y => (7 - y.2).toNat) (I := fun y => (0 ≤ y.2 ∧ y.2 ≤ h1 59 25) ∧ ((y.1 = 1 ∧ ∀ j : Int, 0 ≤ j → j < y.2 → h1 73 j = x → h1 74 j = wof (h1 62) u) ∨ (y.1 = 0 ∧ ¬ ∀ j : Int, 0 ≤ j → j < y.2 → h1 73 j = x → h1 74 j = wof (h1 62) u))) ?_ (1, 0) ⟨⟨by omega, by dsimp only; omega⟩, Or.inl ⟨rfl, fun j j0 j1 => absurd (show j < 0 from j1) (by omega)⟩⟩
  rintro X ⟨s, t⟩ ⟨⟨t0, t1⟩, hs⟩ hX
  dsimp only at t0 t1 hs ⊢
  unfold wp_X9_laws_B83
  have b := wof_bd hu hw
  refine ⟨inR_of (by omega) (by omega), inR_of (by omega) (by omega), fun q => ⟨⟨inR_of (by omega) (by omega), fun _ => trivial, fun _ => ⟨h3, trivial⟩⟩, ?_⟩, fun q => ⟨inR_of (by omega) (by omega), fun q2 => ?_, fun q2 => ⟨⟨by omega, by omega⟩, (ha t t0 (by omega)).1, hx, fun q3 => ?_, fun q3 => ?_⟩⟩⟩
  · rintro _ rfl
    refine ⟨⟨inR_of (by omega) (by omega), trivial⟩, ?_⟩
    rintro _ rfl
    have et : t = h1 59 25 := by omega
    rw [et] at hs
    rw [← fitB_iff] at hs
    rcases hs with ⟨rfl, hs⟩ | ⟨rfl, hs⟩
    · rw [if_pos hs, if_pos hs] at kk
      rw [if_neg (by decide), if_neg (by decide)]; exact kk
    · rw [if_neg hs, if_neg hs] at kk
      rw [if_pos rfl, if_pos rfl]; exact kk
  · refine hX _ ⟨⟨by dsimp only; omega, by dsimp only; omega⟩, Or.inr ⟨rfl, fun z => ?_⟩⟩ (by dsimp only; omega)
    rcases hs with ⟨e, hs⟩ | ⟨e, hs⟩
    · omega
    · exact hs (fun j j0 j1 => z j j0 (by dsimp only; omega))
  · refine sp_weighsOf (by omega) ⟨⟨(ha t t0 (by omega)).2, by rw [show ((u : Nat) : Int).toNat = u by omega]; exact inR_of (by omega) (by omega), trivial⟩, ?_⟩
    rintro _ rfl
    rw [show ((u : Nat) : Int).toNat = u by omega]
    rcases hs with ⟨e, hs⟩ | ⟨e, hs⟩
    · refine hX _ ⟨⟨by dsimp only; omega, by dsimp only; omega⟩, ?_⟩ (by dsimp only; omega)
      dsimp only
      by_cases q4 : h1 74 t = wof (h1 62) u
      · rw [if_pos q4]
        refine Or.inl ⟨rfl, fun j j0 j1 e => ?_⟩
        by_cases hj : j = t
        · rw [hj]; exact q4
        · exact hs j j0 (by omega) e
      · rw [if_neg q4]
        exact Or.inr ⟨rfl, fun z => q4 (z t t0 (by omega) q3)⟩
    · omega
  · rcases hs with ⟨e, hs⟩ | ⟨e, hs⟩
    · refine hX _ ⟨⟨by dsimp only; omega, by dsimp only; omega⟩, Or.inl ⟨rfl, fun j j0 j1 e => ?_⟩⟩ (by dsimp only; omega)
      dsimp only at j1
      by_cases hj : j = t
      · rw [hj] at e; exact absurd e q3
      · exact hs j j0 (by omega) e
    · omega
theorem fsN_bd {p : Nat → Bool} {g : Nat → Int} : ∀ {m : Nat}, (∀ t, t < m → 0 ≤ g t ∧ g t < 10000) → -9 ≤ fsN p g m ∧ fsN p g m < 10000
  | 0, _ => by unfold fsN; omega
  | m + 1, h => by
    rw [fsN_s]
    split
    · have := h m (by omega); omega
    · exact fsN_bd (fun t ht => h t (by omega))
theorem S_laws {c x y : Int} {h : aH} {K : aH → Prop} (i : Inv c h) (hx : inR x) (hy : inR y) (hK : ∀ h', Inv (c + 1) h' → K h') : wp_X8_laws x y h (fun r => wp_X9_laws x y h (fun r2 h2 => inR r ∧ inR r2 ∧ ((r = r2 → K h2) ∧ (¬ r = r2 → False)))) := by
  obtain ⟨hn, hp, e1, e2, hw, hg, hb⟩ := i.2.1
  obtain ⟨c1, c2, c3, c4⟩ := i.2.2.2.2.2.1.2
  unfold wp_X8_laws
  have hwc : ∀ j, 0 ≤ j → j < 4 → 1 ≤ h 4 j ∧ h 4 j ≤ 20 := fun j h0 h1 => (hw j h0 h1).2
  have hwm : ∀ j, 0 ≤ j → j < 4 → 1 ≤ h 62 j ∧ h 62 j ≤ 20 := fun j h0 h1 => by have := hw j h0 h1; omega
  have hac : ∀ j, 0 ≤ j → j < h 52 8 → inR (h 56 j) ∧ inR (h 57 j) := fun j h0 h1 => by
    have := c4 j h0 h1
    exact ⟨inR_of (by omega) (by omega), inR_of (by omega) (by omega)⟩
  have bad : ¬ ((0 ≤ x ∧ x < h 3 4) ∧ 0 ≤ y ∧ y ≤ 1) → wp_X9_laws x y h (fun r2 h2 => inR (-1) ∧ inR r2 ∧ ((-1 = r2 → K h2) ∧ (¬ -1 = r2 → False))) := by
    intro nq
    unfold wp_X9_laws
    rintro _ rfl
    exact sp_personM hx hn (by rw [up_ne (by decide)]; exact e1) (fun r hr => ⟨fun _ => fin_ok rfl (inR_of (by omega) (by omega)) (hK _ i.thr), fun _ => sp_in2 hy inR0 (inR_of (by omega) (by omega)) (fun _ => fin_ok rfl (inR_of (by omega) (by omega)) (hK _ i.thr)) (fun a b => by omega)⟩)
  refine sp_person hx hn (fun r1 hr1 => ⟨fun h0 => bad (by omega), fun h0 => sp_within2 hy inR0 (inR_of (by omega) (by omega)) (fun nq => bad (by omega)) (fun q1 q2 => ?_)⟩)
  have efit : ∀ v, fitB (h 59 25) (h 73) (h 74) x v = fitB (h 52 8) (h 56) (h 57) x v := fun v => by rw [c1]; exact fitB_cong (fun j j0 j1 => by have := c4 j j0 j1; exact ⟨this.1.1, this.1.2.1⟩)
  have ewof : ∀ v, wof (h 62) v = wof (h 4) v := fun v => wof_cong (fun j h0 h1 => (hw j h0 h1).1)
  -- the reference
  have ref : ∀ r, r = (if y = 0 then ((ctN (fun t => fitB (h 52 8) (h 56) (h 57) x (wof (h 4) (figs t))) 256 : Nat) : Int) else fsN (fun t => fitB (h 52 8) (h 56) (h 57) x (wof (h 4) (figs t))) (fun t => (figs t : Int)) 256) → wp_X9_laws x y h (fun r2 h2 => inR r ∧ inR r2 ∧ ((r = r2 → K h2) ∧ (¬ r = r2 → False))) := by
    intro r hr
    unfold wp_X9_laws
    rintro _ rfl
    refine sp_personM hx hn (by rw [up_ne (by decide)]; exact e1) (fun r' hr' => ⟨fun q => absurd q (by omega), fun _ => sp_in2 hy inR0 (inR_of (by omega) (by omega)) (fun nq => absurd ⟨q1, q2⟩ nq) (fun _ _ => ?_)⟩)
    refine lp.rule (μ := fun y => (257 - y.2.2).toNat) (I := fun y => (0 ≤ y.2.2 ∧ y.2.2 ≤ 256) ∧ y.1 = ((ctN (fun t => fitB (h 52 8) (h 56) (h 57) x (wof (h 4) (figs t))) y.2.2.toNat : Nat) : Int) ∧ y.2.1 = fsN (fun t => fitB (h 52 8) (h 56) (h 57) x (wof (h 4) (figs t))) (fun t => (figs t : Int)) y.2.2.toNat) ?_ (0, -9, 0) ⟨⟨by dsimp only; omega, by dsimp only; omega⟩, rfl, rfl⟩
    rintro X ⟨s, s2, t⟩ ⟨⟨t0, t1⟩, hs, hs2⟩ hX
    dsimp only at t0 t1 hs hs2 ⊢
    unfold wp_X9_laws_B33
    obtain ⟨u, rfl⟩ : ∃ u : Nat, t = (u : Int) := ⟨t.toNat, by omega⟩
    rw [show ((u : Nat) : Int).toNat = u by omega] at hs hs2
    have bb := ctN_le (fun t => fitB (h 52 8) (h 56) (h 57) x (wof (h 4) (figs t))) u
    refine ⟨inR_of (by omega) (by omega), fun q => ⟨⟨hy, trivial⟩, ?_⟩, fun q => ?_⟩
    · rw [show u = 256 by omega] at hs hs2 bb
      rw [← hs, ← hs2] at hr
      refine fin_ok hr ?_ (hK _ i.thr)
      rw [hr]
      split
      · exact inR_of (by omega) (by omega)
      · rw [hs2]
        have := fsN_bd (p := fun t => fitB (h 52 8) (h 56) (h 57) x (wof (h 4) (figs t))) (g := fun t => (figs t : Int)) (m := 256) (fun t ht => ⟨by omega, by have := figs_lt ht; omega⟩)
        exact inR_of (by omega) (by omega)
    · rw [bs_figs (by omega)]
      rintro _ rfl
      have a62 : up h 59 0 0 62 = h 62 := up_ne (by decide)
      have a73 : up h 59 0 0 73 = h 73 := up_ne (by decide)
      have a74 : up h 59 0 0 74 = h 74 := up_ne (by decide)
      have a25 : up h 59 0 0 59 25 = h 59 25 := thr59 (by decide)
      refine spM_lawsIn hx (figs_lt (by omega)) (by rw [a62]; exact hwm) (by rw [a25]; omega) (by rw [a25, a73, a74, c1]; exact fun j h0 h1 => by have := hac j h0 h1; have e := c4 j h0 h1; rw [e.1.1, e.1.2.1]; exact this) (inR_of (by omega) (by omega)) ?_
      rw [a62, a73, a74, a25, efit, ewof]
      refine hX _ ⟨⟨by dsimp only; omega, by dsimp only; omega⟩, ?_, ?_⟩ (by dsimp only; omega)
      · dsimp only
        rw [show ((u : Int) + 1).toNat = u + 1 by omega, ctN_s, hs]
        cases fitB (h 52 8) (h 56) (h 57) x (wof (h 4) (figs u)) <;> simp
      · dsimp only
        rw [show ((u : Int) + 1).toNat = u + 1 by omega, fsN_s, ← hs2]
        by_cases q3 : fitB (h 52 8) (h 56) (h 57) x (wof (h 4) (figs u)) = true
        · rw [if_pos q3]
          by_cases q4 : s = 0
          · rw [if_pos q4, if_pos ⟨q3, by omega⟩]
          · rw [if_neg q4, if_neg (fun z => by have := z.2; omega)]
        · rw [if_neg q3, if_neg (fun z => q3 z.1)]
  refine ⟨hy, fun q3 => sp_lawsOf hx hwc ⟨c2, c3⟩ hac (ref _ (by rw [if_pos q3])), fun q3 => sp_firstLawOf hx hwc ⟨c2, c3⟩ hac (ref _ (by rw [if_neg q3]))⟩
