theorem clRL_7 : Cond.classLink RL 7 RX8 ∈ gtb := (List.mem_filter.mpr ⟨List.mem_of_getElem? (i := 76) (by decide +kernel), by decide +kernel⟩)
theorem clRL_10 : Cond.classLink RL 10 RX9 ∈ gtb := (List.mem_filter.mpr ⟨List.mem_of_getElem? (i := 807) (by decide +kernel), by decide +kernel⟩)
theorem ci8 : Cond.instantiable (cC 8) (nf 8) ∈ gtb := (List.mem_filter.mpr ⟨List.mem_of_getElem? (i := 77) (by decide +kernel), by decide +kernel⟩)
theorem cn8 : Cond.initialized (cC 8) ∈ gtb := (List.mem_filter.mpr ⟨List.mem_of_getElem? (i := 62) (by decide +kernel), by decide +kernel⟩)
theorem ci9 : Cond.instantiable (cC 9) (nf 9) ∈ gtb := (List.mem_filter.mpr ⟨List.mem_of_getElem? (i := 808) (by decide +kernel), by decide +kernel⟩)
theorem cn9 : Cond.initialized (cC 9) ∈ gtb := (List.mem_filter.mpr ⟨List.mem_of_getElem? (i := 74) (by decide +kernel), by decide +kernel⟩)
theorem lb_X8_init : LkB mX8_init 0 := ⟨(List.mem_filter.mpr ⟨List.mem_of_getElem? (i := 62) (by decide +kernel), by decide +kernel⟩), (List.mem_filter.mpr ⟨List.mem_of_getElem? (i := 80) (by decide +kernel), by decide +kernel⟩), by decide, by decide, by decide +kernel⟩
theorem liRL_9 : LkI RL 9 mX8_init := ⟨lb_X8_init, Or.inl (List.mem_filter.mpr ⟨List.mem_of_getElem? (i := 78) (by decide +kernel), by decide +kernel⟩), (List.mem_filter.mpr ⟨List.mem_of_getElem? (i := 79) (by decide +kernel), by decide +kernel⟩), rfl⟩
theorem lb_X9_init : LkB mX9_init 0 := ⟨(List.mem_filter.mpr ⟨List.mem_of_getElem? (i := 74) (by decide +kernel), by decide +kernel⟩), (List.mem_filter.mpr ⟨List.mem_of_getElem? (i := 811) (by decide +kernel), by decide +kernel⟩), by decide, by decide, by decide +kernel⟩
theorem liRL_12 : LkI RL 12 mX9_init := ⟨lb_X9_init, Or.inl (List.mem_filter.mpr ⟨List.mem_of_getElem? (i := 809) (by decide +kernel), by decide +kernel⟩), (List.mem_filter.mpr ⟨List.mem_of_getElem? (i := 810) (by decide +kernel), by decide +kernel⟩), rfl⟩
theorem w_ao : Cond.arrayOver (.object RX4) ∈ lw_tbl := (List.mem_of_getElem? (i := 172) (by decide +kernel))
theorem w_ls : Cond.laysStatic RX8 "FIRST_WEIGHTS" "[I" ∈ lw_tbl := (List.mem_of_getElem? (i := 287) (by decide +kernel))
theorem ci_all : ∀ ci, ci < 10 → Cond.instantiable (cC ci) (nf ci) ∈ gtb := by
  intro ci h
  rcases (show ci = 0 ∨ ci = 1 ∨ ci = 2 ∨ ci = 3 ∨ ci = 4 ∨ ci = 5 ∨ ci = 6 ∨ ci = 7 ∨ ci = 8 ∨ ci = 9 by omega) with rfl | rfl | rfl | rfl | rfl | rfl | rfl | rfl | rfl | rfl
  · exact ci0
  · exact ci1
  · exact ci2
  · exact ci3
  · exact ci4
  · exact ci5
  · exact ci6
  · exact ci7
  · exact ci8
  · exact ci9
/-- WHAT IS LEFT, without any machine: the class and the reference, made and then asked alike, answer alike -/
def PURE : Prop := ∀ (LL : Nat) (sx : Int → Int), LL ≤ 384 → (∀ i, inR (sx i)) → wp_X7_makeEmpty 3 Z2 (fun h1 => wp_X8_beginAnew h1 (fun h2 => (∀ m, 59 ≤ m → ∀ i, h2 m i = 0) ∧ wp_X9_begins h2 (fun h3 => wp_X9_settles h3 (fun h4 => wp_L_law LL sx h4))))
theorem wp_mono_help {A B : Prop} (f : A → B) (a : A) : B := f a
theorem kk_start {s : State} {args : Array Value} (own : ClassId) (hts : ∀ w ∈ lw_tbl, w.before args s = true) (hgv : (Jvm.Cond.and given_1 narrow_1).before args s = true) (b : Nat) (hbl : b < s.heap.size) : ∃ Γ : Gm, Γ.2.2.1 = s.heap.size ∧ Γ.2.2.2.1 = b ∧ KK Γ s ∧ va_AO RX4 s := by
  have hg : ∀ w ∈ gtb, w.before args s = true := fun w h => hts w (List.mem_filter.mp h).1
  have hkn : ∀ ci, ∃ (q : ClassId × (Nat → Nat)), ci < 10 → u_Kn s (cC ci) (cT ci) (nf ci) q.1 q.2 := by
    intro ci
    by_cases hci : ci < 10
    · obtain ⟨c, i, h⟩ := u_known (C := cC ci) (T := cT ci) (N := nf ci) (n := nf ci) hg (cf_all hci).2.1 (hg _ (ci_all ci hci))
      exact ⟨(c, i), fun _ => h⟩
    · exact ⟨(own, fun _ => 0), fun h => absurd h hci⟩
  obtain ⟨dd, hdd⟩ := Classical.skolem.mp hkn
  have har : ∀ ty, Cond.arrayClass ty ∈ gtb → (∀ C, ty ≠ .object C) → ∃ cA, ArrOfT s cA ty ∧ va_RA s cA ty := by
    intro ty h hno
    obtain ⟨c, k, comp, h1, h2, h3⟩ := Cond.arrayClass_spec (hg _ h)
    refine ⟨c, fun n z => ⟨fun k h => (by cases h), k, h2, comp, h3⟩, ?_⟩
    cases ty <;> first | exact absurd rfl (hno _) | exact h1
  obtain ⟨c0, a0⟩ := har _ ac0 (fun C h => by cases h)
  obtain ⟨c1, a1⟩ := har _ ac1 (fun C h => by cases h)
  obtain ⟨c2, a2⟩ := har _ ac2 (fun C h => by cases h)
  obtain ⟨c3, a3⟩ := har _ ac3 (fun C h => by cases h)
  have hao : va_AO RX4 s := va_AO.of (hts _ w_ao)
  obtain ⟨comp4, c4, k4, f1, -, f3, f4, f5⟩ := Cond.arrayOver_spec (hts _ w_ao)
  have hs := flat_of_before _ hgv
  have hA : ∀ q : Nat, q < s.heap.size → ¬ (fun q : Nat => s.heap.size ≤ q) q := fun q h1 h2 => by
    have h3 : s.heap.size ≤ q := h2
    omega
  obtain ⟨t, htv, hT⟩ := va_Tof (args := args) (s := s) (tm := .static "UnsaidScales" "FIRST_WEIGHTS" "[I") (ty := .int) (N := 4) (f := fun j => .int (Int32.ofInt (fwv j))) (A := fun q : Nat => s.heap.size ≤ q) (by decide)
    (hs (.arrayOf (.static "UnsaidScales" "FIRST_WEIGHTS" "[I") .int) (by decide +kernel)) (va_eqt (hs (.eq (.length (.static "UnsaidScales" "FIRST_WEIGHTS" "[I")) (.int 4)) (by decide +kernel)))
    (fun j hj => by
      rcases (show j = 0 ∨ j = 1 ∨ j = 2 ∨ j = 3 by omega) with rfl | rfl | rfl | rfl
      · exact va_eqt (hs (.eq (.elem (.static "UnsaidScales" "FIRST_WEIGHTS" "[I") (.int 0)) (.int 1)) (by decide +kernel))
      · exact va_eqt (hs (.eq (.elem (.static "UnsaidScales" "FIRST_WEIGHTS" "[I") (.int 1)) (.int 4)) (by decide +kernel))
      · exact va_eqt (hs (.eq (.elem (.static "UnsaidScales" "FIRST_WEIGHTS" "[I") (.int 2)) (.int 9)) (by decide +kernel))
      · exact va_eqt (hs (.eq (.elem (.static "UnsaidScales" "FIRST_WEIGHTS" "[I") (.int 3)) (.int 16)) (by decide +kernel))) hA
  have hZ := va_Zref (A := fun q : Nat => s.heap.size ≤ q) (hts _ w_ls) (hg _ cn8) htv hA
  have htl : t < s.heap.size := by
    obtain ⟨cell, h1, -⟩ := hT
    exact (Array.getElem?_eq_some_iff.mp h1).1
  refine ⟨((fun k => (dd k).1, fun k => (dd k).2), fun k => if k = 0 then c0 else if k = 1 then c1 else if k = 2 then c2 else if k = 3 then c3 else c4, s.heap.size, b, t), rfl, rfl, ⟨⟨?_, ?_⟩, ?_, hZ, hT, hbl, htl, Nat.le_refl _⟩, hao⟩
  · intro k q hq
    have hk : k < 10 := (List.getElem?_eq_some_iff.mp hq).1
    have hq2 := (cf_all hk).1
    cases hq.symm.trans hq2
    exact hdd k hk
  · intro k q hq
    have hk : k < 5 := (List.getElem?_eq_some_iff.mp hq).1
    rcases (show k = 0 ∨ k = 1 ∨ k = 2 ∨ k = 3 ∨ k = 4 by omega) with rfl | rfl | rfl | rfl | rfl
    · cases hq; exact a0
    · cases hq; exact a1
    · cases hq; exact a2
    · cases hq; exact a3
    · cases hq
      exact ⟨fun n z => ⟨fun k h => (by cases h), k4, f3, comp4, f4⟩, k4, comp4, f3, f4, f1, f5⟩
  · intro w hw hn
    exact va_Nw.of (isNest_tab hn) (hts w hw)
set_option maxRecDepth 100000 in
set_option maxHeartbeats 4000000 in
theorem whole_open (hpure : PURE) {p : Program} {e : Env} {s : State} {m : MethodId} {below : List Frame} {meth : Method} {c : Code} (l : Launch) {b L : Nat} {xs : Nat → Int32} (hL : L ≤ 384) (C0 : lw_At p s m meth c b L xs) : W p l e room_1 s m #[Value.ref b] below meth c s.heap [] 0 0 (lw_Z below #[Value.ref b] s) (entryFrame m ([Value.ref b] : List Value).toArray 4) := by
  obtain ⟨hx, hb, hr, hml, hown, hts, hX, hbl, hlocks, hgv⟩ := C0
  obtain ⟨Γ, hb1, hb2, hKK, hao⟩ := kk_start m.cls hts hgv b hbl
  subst hb2
  have a : Ac Γ p s m #[Value.ref Γ.2.2.2.1] meth c RL cL_law 4 (some .boolean) := ⟨hx, hb, hml, hr, hlocks, hown, fun w h => hts w (List.mem_filter.mp h).1, hKK⟩
  have hsz : s.heap.size = Γ.2.2.1 + 0 := by rw [hb1]; rfl
  have hbl2 : Γ.2.2.2.1 < Γ.2.2.1 := by rw [hb1]; exact hbl
  have hw := hpure L (fun i => (xs i.toNat).toInt) hL (fun i => ⟨by have := Int32.le_toInt (xs i.toNat); omega, by have := Int32.toInt_lt (xs i.toNat); omega⟩)
  suffices H : OK Γ p l e room_1 s m #[Value.ref Γ.2.2.2.1] below meth c 0 (lw_Z below #[Value.ref Γ.2.2.2.1] s) 0 [some (vR 1000), none, none, none] [] 0 G0 Z0 by
    have hl := lv_entry ([Value.ref Γ.2.2.2.1]) (n := 4) (Nat.le_of_ble_eq_true rfl)
    rw [lg_entry_eq]
    generalize (lg_sl ([Value.ref Γ.2.2.2.1]) ++ List.replicate (4 - (lg_sl ([Value.ref Γ.2.2.2.1])).length) Slot.unset).toArray = ls at hl ⊢
    have k := H s.heap [] ls ⟨by decide, fun k q h => by simp [aw] at h⟩ va_S.rf ⟨by rw [hl.1, hml], hl.2.1, by rw [hml]; rfl, fun i v hi => by
      rcases (show i = 0 ∨ i = 1 ∨ i = 2 ∨ i = 3 ∨ 4 ≤ i by omega) with rfl | rfl | rfl | rfl | h4
      · have hv : v = vR 1000 := by simpa using hi.symm
        subst hv
        exact hl.2.2 (0, Value.ref Γ.2.2.2.1) List.mem_cons_self
      · simp at hi
      · simp at hi
      · simp at hi
      · rw [List.getElem?_eq_none (by show 4 ≤ i; exact h4)] at hi
        cases hi⟩
    exact k
  refine ok_new (pc := 0) (n := 0) a dL_law_0 cq0 (by decide) clRL_7 ci8 cn8 hsz (by decide) (by decide) (fun _ => rfl) (gb0 0 (by decide)) ⟨by decide +kernel, by decide +kernel⟩ ?_
  refine ok_dup (pc := 3) a dL_law_3 (by rfl) ?_
  refine ok_callI (pc := 4) (n := 1) (nE := 59) (st := [vR 0]) a (C_X8_init_0 hw) hao rfl dL_law_4 liRL_9 ⟨by decide, by decide⟩ hsz (by decide) (by decide) ⟨by decide +kernel, by decide +kernel⟩ (Nat.le_of_ble_eq_true rfl) (fun v g1 h1 q => ?_)
  obtain ⟨rfl, rfl, hz, hw⟩ := q
  refine ok_astore_n (pc := 7) a dL_law_7 rfl (by decide) rfl ?_
  refine ok_new (pc := 8) (n := 59) a dL_law_8 cq59 (by decide) clRL_10 ci9 cn9 hsz (by decide) (by decide) (hz 59 (by decide)) (gb58 59 (by decide)) ⟨by decide +kernel, by decide +kernel⟩ ?_
  refine ok_dup (pc := 11) a dL_law_11 (by rfl) ?_
  refine ok_callI (pc := 12) (n := 60) (nE := 80) (st := [vR 59]) a (C_X9_init_59 hz hw) hao rfl dL_law_12 liRL_12 ⟨by decide, by decide⟩ hsz (by decide) (by decide) ⟨by decide +kernel, by decide +kernel⟩ (Nat.le_of_ble_eq_true rfl) (fun v g1 h2 q => ?_)
  obtain ⟨rfl, rfl, hw⟩ := q
  refine ok_astore_n (pc := 15) a dL_law_15 rfl (by decide) rfl ?_
  exact M_L_law a hL hX hsz hbl2 rfl hw
