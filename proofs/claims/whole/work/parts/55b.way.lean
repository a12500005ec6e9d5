-- the first way
def OKK (w f : Int → Int) (p v n : Int) (k : Nat) : Prop := CS f p k ∧ wof w k = v ∧ cnk k = n
def FST (w f : Int → Int) (p v n : Int) (k : Nat) : Prop := k < 10000 ∧ OKK w f p v n k ∧ ∀ k', k' < k → ¬ OKK w f p v n k'
theorem FST.uniq {w f : Int → Int} {p v n : Int} {k k' : Nat} (a : FST w f p v n k) (b : FST w f p v n k') : k = k' := by
  rcases Nat.lt_trichotomy k k' with z | z | z
  · exact absurd a.2.1 (b.2.2 k z)
  · exact z
  · exact absurd b.2.1 (a.2.2 k' z)
theorem spM_wayOf {p t n : Int} {w f : Int → Int} {h : aH} {Q : Int → Prop} (hp : 0 ≤ p ∧ p < 4) (ht : 0 ≤ t ∧ t ≤ 720) (hn : 0 ≤ n ∧ n ≤ 1000000) (hw : ∀ j, 0 ≤ j → j < 4 → h 62 j = w j ∧ 1 ≤ w j ∧ w j ≤ 20) (hf : ∀ j, 0 ≤ j → j < 16 → h 66 (1 + j) = f j ∧ 0 ≤ f j ∧ f j ≤ 9) (hex : RR w (hdC f p) (hv w f p - t) n) (kk : ∀ k : Nat, FST w f p (hv w f p - t) n k → Q k) : wp_X9_wayOf p t n h Q := by
  unfold wp_X9_wayOf
  refine sp_heavinessM hp ?_
  have eh : hv (h 62) (fun i => h 66 (1 + i)) p = hv w f p := hv_cong hp (fun j a b => (hw j a b).1) (fun j a b => (hf j a b).1)
  rw [eh]
  have hfb : ∀ j, 0 ≤ j → j < 16 → 0 ≤ f j ∧ f j ≤ 9 := fun j a b => (hf j a b).2
  have vb := hv_bd (w := w) (f := f) hp (fun j a b => (hw j a b).2) hfb
  obtain ⟨k0, z1, z2⟩ := RR_to hp hfb hex
  refine lp.rule (μ := fun z => ((k0 : Int) + 1 - z).toNat) (I := fun z => (0 ≤ z ∧ z ≤ (k0 : Int)) ∧ ∀ k : Nat, (k : Int) < z → ¬ OKK w f p (hv w f p - t) n k) ?_ 0 ⟨⟨by omega, by omega⟩, fun k hk => by omega⟩
  rintro X m ⟨⟨m0, m1⟩, hm⟩ hX
  unfold wp_X9_wayOf_B10 wp_X9_wayOf_J67
  obtain ⟨K, rfl⟩ : ∃ K : Nat, m = (K : Int) := ⟨m.toNat, by omega⟩
  have nx : ¬ OKK w f p (hv w f p - t) n K → X ((K : Int) + 1) := fun no => by
    have hne : K ≠ k0 := fun e => no (by rw [e]; exact z2)
    refine hX _ ⟨⟨by omega, by omega⟩, fun k hk => ?_⟩ (by omega)
    by_cases e : k = K
    · rw [e]; exact no
    · exact hm k (by omega)
  refine spM_canSay hp (by omega) hf (fun r hr => ⟨fun z => nx (fun o => ?_), fun z => sp_weighsOf (by omega) ?_⟩)
  · rcases hr with ⟨y, _⟩ | ⟨_, y⟩
    · omega
    · exact y o.1
  · have hc : CS f p K := by
      rcases hr with ⟨_, y⟩ | ⟨y, _⟩
      · exact y
      · omega
    rw [show ((K : Nat) : Int).toNat = K by omega, wof_cong (w := w) (fun j a b => (hw j a b).1)]
    have wb := wof_bd (w := w) (v := K) (by omega) (fun j a b => (hw j a b).2)
    have ec : (K : Int) / 1000 + (K : Int) / 100 % 10 + (K : Int) / 10 % 10 + (K : Int) % 10 = cnk K := by unfold cnk; omega
    have cb : 0 ≤ cnk K ∧ cnk K ≤ 100 := by unfold cnk; omega
    rw [ec]
    refine ⟨inR_of (by omega) (by omega), inR_of (by omega) (by omega), fun q => ⟨⟨by omega, by omega⟩, ⟨by omega, by omega⟩, ⟨by omega, by omega⟩, inR_of (by omega) (by omega), inR_of (by omega) (by omega), fun q2 => kk K ⟨by omega, ⟨hc, by omega, q2⟩, fun k' hk' => hm k' (by omega)⟩, fun q2 => nx (fun o => q2 o.2.2)⟩, fun q => nx (fun o => q (by have := o.2.1; omega))⟩
