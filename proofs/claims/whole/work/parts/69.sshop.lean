-- SHOP: class and reference
theorem Inv_new {c : Int} {m : aH} (t1 : m 1 1 = 0) (t2 : m 59 3 = 0) (il : IL m) (e1 : m 13 1 = 0) (e2 : m 13 2 = 0) (hh : ∀ i, 0 ≤ i → i < 16 → m 66 (1 + i) = m 14 i ∧ 0 ≤ m 14 i ∧ m 14 i ≤ 9) (s0 : m 66 0 = 0) (s17 : ∀ i, 17 ≤ i → i < 23 → m 66 i = 0) (u1 : 0 ≤ m 15 1 ∧ m 15 1 < 10) (u2 : m 15 2 = 0) (u3 : m 59 18 = 0) (k0 : m 42 0 = 0) (k1 : m 42 1 = 0) (l0 : m 68 0 = 0) (l1 : m 68 1 = 0) (v1 : m 52 7 = 0) (v2 : m 52 8 = 0) (v3 : m 59 22 = 0) (v4 : m 59 25 = 0) (w6 : m 52 6 = 0) (oc : ORDC (m 43 2) (m 43 3) (m 44)) (om : ORDM (m 3 4) (m 76) (m 77)) (dr : DRAW (m 3 5) (m 7) (m 48)) (tr : ITR (m 0 11) (m 59 1) c) : Inv c m := by
  have p4 : (0 : Int) < ((4 ^ pcn (m 3 4) : Nat) : Int) := by
    have : 0 < 4 ^ pcn (m 3 4) := Nat.pow_pos (by decide)
    omega
  refine ⟨?_, il, ?_, ?_, ?_, ?_, ?_, oc, om, dr, tr⟩
  · unfold IT
    rw [t1, t2]
    exact ⟨rfl, by omega, by omega, fun i i0 i1 => by omega⟩
  · rw [e1, e2]
    refine ⟨⟨by omega, by omega⟩, s0, hh, ⟨by omega, p4⟩, fun i hi => ?_⟩
    have hp : ppi i < 6 := by unfold ppi; split <;> (try split) <;> omega
    rw [s17 _ (by omega) (by omega)]
    have : fnd (0 : Int).toNat i = 0 := by unfold fnd; simp
    rw [this]
    rfl
  · exact ⟨u1, by rw [u2]; omega, by rw [u3, u2], fun j j0 j1 => by rw [u2] at j1; omega⟩
  · exact ⟨⟨by rw [k0, l0], Or.inl k0, fun z => by rw [k0] at z; omega⟩, ⟨by rw [k1, l1], Or.inl k1, fun z => by rw [k1] at z; omega⟩⟩
  · exact ⟨⟨by rw [v1, v3], by rw [v1]; omega, by rw [v1]; omega, fun i i0 i1 => by rw [v1] at i1; omega⟩, ⟨by rw [v2, v4], by rw [v2]; omega, by rw [v2]; omega, fun i i0 i1 => by rw [v2] at i1; omega⟩⟩
  · exact ⟨Or.inl w6, fun z => by rw [w6] at z; omega⟩
/-- a fault: nothing of what counts has changed -/
theorem Inv.shopbad {c : Int} {h g m : aH} (i : Inv c h) (fc : FrC h g) (e1 : g 1 1 = h 1 1) (fm : RFr g m) : Inv (c + 1) m := by
  have s : ∀ k, k ≠ 1 ∧ ¬ (8 ≤ k ∧ k ≤ 12) ∧ k ≠ 59 ∧ ¬ (61 ≤ k ∧ k ≤ 65) → m k = h k := fun k q => by rw [fm.1 k q.2.2.1 q.2.2.2, fc k q.1 q.2.1]
  have s59 : ∀ j : Int, ¬ j = 0 → ¬ j = 4 → ¬ j = 5 → ¬ j = 6 → ¬ j = 7 → ¬ j = 8 → m 59 j = h 59 j := fun j j0 j4 j5 j6 j7 j8 => by rw [fm.2.1 j j0 j4 j5 j6 j7 j8, fc 59 (by decide) (by decide)]
  have m1 : m 1 1 = h 1 1 := by rw [fm.1 1 (by decide) (by decide)]; exact e1
  obtain ⟨i1, i2, i3, i4, i5, i6, i7, i8, i9, i10, i11⟩ := i
  refine ⟨i1.fr m1 (s59 3 (by decide) (by decide) (by decide) (by decide) (by decide) (by decide)) (s 2 (by omega)) (s 60 (by omega)), ?_, ?_, i4.fr (by rw [s 3 (by omega)]) (by rw [s 15 (by omega)]) (by rw [s 15 (by omega)]) (s59 18 (by decide) (by decide) (by decide) (by decide) (by decide) (by decide)) (s 69 (by omega)) (fun k q1 q2 => s k (by omega)), i5.fr (by rw [s 3 (by omega)]) (s 42 (by omega)) (s 68 (by omega)) (s 67 (by omega)) (s 38 (by omega)) (s 39 (by omega)) (s 40 (by omega)) (s 41 (by omega)), i6.fr (by rw [s 52 (by omega)]) (by rw [s 52 (by omega)]) (s59 22 (by decide) (by decide) (by decide) (by decide) (by decide) (by decide)) (s59 25 (by decide) (by decide) (by decide) (by decide) (by decide) (by decide)) (fun k q1 q2 => s k (by omega)) (fun k q1 q2 => s k (by omega)), ?_, ?_, ?_, ?_, ?_⟩
  · obtain ⟨a1, a2, a3, a4, a5, a6, a7⟩ := i2
    unfold IL
    rw [s 3 (by omega), s 4 (by omega), s 6 (by omega), s 7 (by omega)]
    refine ⟨a1, a2, ?_, ?_, fun j j0 j1 => ?_, fun j j0 j1 => ?_, fun j j0 j1 => ?_⟩
    · rw [fm.2.2.1 0 (by omega), fc 61 (by decide) (by decide)]; exact a3
    · rw [fm.2.2.1 1 (by omega), fc 61 (by decide) (by decide)]; exact a4
    · rw [fm.2.2.2.1 j (by omega), fc 62 (by decide) (by decide)]; exact a5 j j0 j1
    · rw [fm.2.2.2.2.1 j (by omega), fc 64 (by decide) (by decide)]; exact a6 j j0 j1
    · rw [fm.2.2.2.2.2 j (by omega), fc 65 (by decide) (by decide)]; exact a7 j j0 j1
  · rw [s 3 (by omega), s 13 (by omega), s 14 (by omega), s 66 (by omega)]; exact i3
  · rw [s 52 (by omega), s 4 (by omega), s 58 (by omega)]; exact i7
  · rw [s 43 (by omega), s 44 (by omega)]; exact i8
  · rw [s 3 (by omega), s 76 (by omega), s 77 (by omega)]; exact i9
  · rw [s 3 (by omega), s 7 (by omega), s 48 (by omega)]; exact i10
  · rw [s 0 (by omega), s59 1 (by decide) (by decide) (by decide) (by decide) (by decide) (by decide)]; exact i11.up (by omega)
theorem sp_copyTold {g : aH} {Q : aH → Prop} (kk : ∀ k : aH, (∀ c, c < 3 ∨ 7 < c → k c = g c) → k 3 4 = g 8 4 → k 3 5 = g 8 5 → (∀ i, 0 ≤ i → i < 4 → k 4 i = g 9 i) → (∀ i, 0 ≤ i → i < 16 → k 5 i = g 10 i) → (∀ i, 0 ≤ i → i < 16 → k 6 i = g 11 i) → (∀ i, 0 ≤ i → i < 5 → k 7 i = g 12 i) → Q k) : wp_X7_copyFrom g Q := by
  unfold wp_X7_copyFrom
  rintro _ rfl
  rintro _ rfl
  rintro _ rfl
  rintro _ rfl
  rintro _ rfl
  rintro _ rfl
  refine kk _ (fun c hc => ?_) ?_ ?_ (fun i i0 i1 => ?_) (fun i i0 i1 => ?_) (fun i i0 i1 => ?_) (fun i i0 i1 => ?_)
  · rw [up_ne (by omega), up_ne (by omega), cpy_ne (by omega), cpy_ne (by omega), cpy_ne (by omega), cpy_ne (by omega)]
  · rw [up_eq, if_neg (by decide), up_eq, if_pos rfl, cpy_ne (by decide), cpy_ne (by decide), cpy_ne (by decide), cpy_ne (by decide)]
  · rw [up_eq, if_pos rfl, up_ne (by decide), cpy_ne (by decide), cpy_ne (by decide), cpy_ne (by decide), cpy_ne (by decide)]
  · rw [up_ne (by decide), up_ne (by decide), cpy_ne (by decide), cpy_ne (by decide), cpy_ne (by decide), cpy_at i0 i1]
  · rw [up_ne (by decide), up_ne (by decide), cpy_ne (by decide), cpy_ne (by decide), cpy_at i0 i1, cpy_ne (by decide)]
  · rw [up_ne (by decide), up_ne (by decide), cpy_ne (by decide), cpy_at i0 i1, cpy_ne (by decide), cpy_ne (by decide)]
  · rw [up_ne (by decide), up_ne (by decide), cpy_at i0 i1, cpy_ne (by decide), cpy_ne (by decide), cpy_ne (by decide)]
theorem S_shop {c : Int} {h : aH} {K : aH → Prop} (i : Inv c h) (hK : ∀ h', Inv (c + 1) h' → K h') : wp_X8_shop h (fun r h1 => wp_X9_shop h1 (fun r2 h2 => inR r ∧ inR r2 ∧ ((r = r2 → K h2) ∧ (¬ r = r2 → False)))) := by
  obtain ⟨t1, t2, t3, t4⟩ := i.1
  have tx : TX (h 2) (h 1 1) := ⟨⟨t2, t3⟩, fun j j0 j1 => (t4 j j0 j1).2⟩
  have rc : RCt (h 2) (h 1 1) h := ⟨t1.symm, fun j j0 j1 => (t4 j j0 j1).1.symm⟩
  unfold wp_X8_shop
  refine sp_readInto tx rfl rfl (fun x0 J g d0 fc hJ lh ns hst => ?_)
  obtain ⟨l1, l2, l3, l4, l5⟩ := lh
  unfold wp_X6_hasFault
  rw [l3]
  refine ⟨⟨inR_of (by omega) (by omega), trivial⟩, fun q => ?_, fun q => ?_⟩
  · have q := fl_0 q
    have cd : CD g (itN (h 2) (h 1 1) x0 J) := by
      rcases l5 with l5 | l5
      · exact l5.2.2
      · omega
    obtain ⟨c1, c2, c3, c4, c5, c6⟩ := cd
    have dk := (run_ok tx d0 J ns q).1
    obtain ⟨d1, d2, d3, d4, d5, d6⟩ := dk
    refine sp_copyTold (fun k k1 k2 k3 k4 k5 k6 k7 => ?_)
    rintro _ rfl
    have b35 : up k 1 1 0 3 5 = (itN (h 2) (h 1 1) x0 J).2.2.2.1 := by rw [up_ne (by decide), k3, c2]
    have b34 : up k 1 1 0 3 4 = (itN (h 2) (h 1 1) x0 J).2.2.1 := by rw [up_ne (by decide), k2, c1]
    have b7 : ∀ j, 0 ≤ j → j < (itN (h 2) (h 1 1) x0 J).2.2.2.1 → up k 1 1 0 7 j = (itN (h 2) (h 1 1) x0 J).2.2.2.2.2.2.2 j := fun j j0 j1 => by rw [up_ne (by decide), k7 j j0 (by omega), c6]
    refine sp_anew (by rw [b35]; exact d2) (fun j j0 j1 => by rw [b35] at j1; rw [b7 j j0 j1]; exact d6 j j0 j1) (fun n n1 n2 n3 n4 n5 n6 n7 n8 n9 n10 n11 n12 => ?_)
    have nc : ∀ cc, ¬ (1 ≤ cc ∧ cc ≤ 15) → cc ≠ 42 → cc ≠ 47 → cc ≠ 48 → cc ≠ 52 → n cc = h cc := fun cc h0 h1 h2 h3 h4 => by rw [n1 cc (by omega) (by omega) (by omega) h1 h2 h3 h4, up_ne (by omega), k1 cc (by omega), fc cc (by omega) (by omega)]
    refine spM_shop tx (rc.fr (by rw [nc 59 (by decide) (by decide) (by decide) (by decide) (by decide)]) (nc 60 (by decide) (by decide) (by decide) (by decide) (by decide))) d0 ns hst (fun g2 z => absurd q z) (fun g2 _ _ fm rd => ?_)
    obtain ⟨r1, r2, r3, r4, r5, r6⟩ := rd
    refine spM_settles d1 r1 (fun m m1 m2 m3 m4 m5 m6 m7 m8 m9 m10 m11 m12 m13 m14 m15 m16 m17 => fin_ok rfl (inR_of (by omega) (by omega)) (hK _ ?_))
    -- the class's cells stay
    have mc : ∀ cc, cc < 59 → m cc = n cc := fun cc hc => by rw [m1 cc (by omega) (by omega) (by omega) (by omega) (by omega) (by omega) (by omega) (by omega) (by omega) (by omega), fm.1 cc (by omega) (by omega)]
    have n3' : n 3 = up k 1 1 0 3 := n1 3 (by decide) (by decide) (by decide) (by decide) (by decide) (by decide) (by decide)
    have n7' : n 7 = up k 1 1 0 7 := n1 7 (by decide) (by decide) (by decide) (by decide) (by decide) (by decide) (by decide)
    have e34 : m 3 4 = (itN (h 2) (h 1 1) x0 J).2.2.1 := by rw [mc 3 (by decide), n3']; exact b34
    have e35 : m 3 5 = (itN (h 2) (h 1 1) x0 J).2.2.2.1 := by rw [mc 3 (by decide), n3']; exact b35
    have f4 : ∀ j, 0 ≤ j → j < 4 → m 4 j = (itN (h 2) (h 1 1) x0 J).2.2.2.2.1 j := fun j j0 j1 => by rw [mc 4 (by decide), n1 4 (by decide) (by decide) (by decide) (by decide) (by decide) (by decide) (by decide), up_ne (by decide), k4 j j0 j1, c3]
    have f6 : ∀ j, 0 ≤ j → j < 16 → m 6 j = (itN (h 2) (h 1 1) x0 J).2.2.2.2.2.2.1 j := fun j j0 j1 => by rw [mc 6 (by decide), n1 6 (by decide) (by decide) (by decide) (by decide) (by decide) (by decide) (by decide), up_ne (by decide), k6 j j0 j1, c5]
    have f7 : ∀ j, 0 ≤ j → j < (itN (h 2) (h 1 1) x0 J).2.2.2.1 → m 7 j = (itN (h 2) (h 1 1) x0 J).2.2.2.2.2.2.2 j := fun j j0 j1 => by rw [mc 7 (by decide), n7']; exact b7 j j0 j1
    have f14 : ∀ j, 0 ≤ j → j < 16 → m 14 j = (itN (h 2) (h 1 1) x0 J).2.2.2.2.2.1 j := fun j j0 j1 => by rw [mc 14 (by decide), n4 j j0 j1, up_ne (by decide), k5 j j0 j1, c4]
    obtain ⟨i1, i2, i3, i4, i5, i6, i7, i8, i9, i10, i11⟩ := i
    refine Inv_new ?_ m10 ⟨by rw [e34]; exact d1, by rw [e35]; exact d2, by rw [m2, e34], by rw [m3, e35, r2], fun j j0 j1 => ?_, fun j j0 j1 => ?_, fun j j0 j1 => ?_⟩ (by rw [mc 13 (by decide)]; exact n2) (by rw [mc 13 (by decide)]; exact n3) (fun j j0 j1 => ?_) m7 m9 ?_ (by rw [mc 15 (by decide)]; exact n6) m13 (by rw [mc 42 (by decide)]; exact n7) (by rw [mc 42 (by decide)]; exact n8) m15 m16 (by rw [mc 52 (by decide)]; exact n11) (by rw [mc 52 (by decide)]; exact n12) m11 m12 (by rw [mc 52 (by decide)]; exact n10) ?_ (by rw [e34]; exact m17) ?_ ?_
    · rw [mc 1 (by decide), n1 1 (by decide) (by decide) (by decide) (by decide) (by decide) (by decide) (by decide), up_eq, if_pos rfl]
    · rw [m4 j j0 j1, r3 j j0 j1, f4 j j0 j1]; exact ⟨rfl, d3 j j0 j1⟩
    · rw [m5 j j0 j1, r5 j j0 j1, f6 j j0 j1, e34]; exact ⟨rfl, d5 j j0 j1⟩
    · rw [e35] at j1
      rw [m6 j j0 (by omega), r6 j j0 j1, f7 j j0 j1]; exact ⟨rfl, d6 j j0 j1⟩
    · rw [m8 j j0 j1, f14 j j0 j1]
      have := d4 j j0 j1
      refine ⟨?_, this.1, this.2.1⟩
      by_cases z : 4 * (itN (h 2) (h 1 1) x0 J).2.2.1 ≤ j
      · rw [if_pos z]; exact (this.2.2 z).symm
      · rw [if_neg z]; exact r4 j j0 (by omega)
    · rw [mc 15 (by decide), n5, up_ne (by decide), k1 15 (by omega), fc 15 (by omega) (by omega)]; exact i4.1
    · rw [mc 43 (by decide), mc 44 (by decide), nc 43 (by decide) (by decide) (by decide) (by decide) (by decide), nc 44 (by decide) (by decide) (by decide) (by decide) (by decide)]; exact i8
    · rw [e35, ← b35, mc 7 (by decide), n7', mc 48 (by decide)]; exact n9
    · rw [mc 0 (by decide), nc 0 (by decide) (by decide) (by decide) (by decide) (by decide), m14, fm.2.1 1 (by decide) (by decide) (by decide) (by decide) (by decide) (by decide), nc 59 (by decide) (by decide) (by decide) (by decide) (by decide)]; exact i11.up (by omega)
  · have q := fl_1 q
    refine spM_shop tx (rc.fr (by rw [fc 59 (by decide) (by decide)]) (fc 60 (by decide) (by decide))) d0 ns hst (fun g2 _ z1 z2 fm => fin_ok rfl (inR_of (by omega) (by omega)) (hK _ (i.shopbad fc l2 fm))) (fun g2 z => absurd z q)
