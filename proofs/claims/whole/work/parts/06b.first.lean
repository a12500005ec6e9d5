section FIRSTW
variable {Γ : Gm} {p : Program} {l : Launch} {e : Env} {R : Room} {s : State} {m : MethodId} {args : Array Value} {below : List Frame} {meth : Method} {c : Code} {own : String} {cc : ByteArray} {nL : Nat} {rt : Option FieldType} {n0 : Nat} {Q : State → Prop} {pc : Nat} {L : List (Option aV)} {st : List aV} {n : Nat} {g : aG} {h : aH}
theorem ok_gets (a : Ac Γ p s m args meth c own cc nL rt) {idx : Nat} {host : String} (d : decode cc pc = .ok (.getstatic idx, 3)) (lk : Cond.fieldLinkNest own idx RX8 "FIRST_WEIGHTS" "[I" host ∈ lw_tbl) (kk : OK Γ p l e R s m args below meth c n0 Q (pc + 3) L (vR 1001 :: st) n g h) : OK Γ p l e R s m args below meth c n0 Q pc L st n g h := by
  intro H locs ls hH hS hL
  have k1 := kk H locs ls hH hS hL
  obtain ⟨q1, q2, q3, q4, q5⟩ := a.2.2.2.2.2.2.2
  exact va_getsN a.1 a.2.1 q3 hS a.2.2.2.2.2.1 (va_Nw.use (by rfl) (q2 _ lk rfl)) (fun _ h9 => h9) d k1
def cpF (h : aH) (kt : Nat) : aH := fun k i => if k = kt ∧ 0 ≤ i ∧ i < 4 then fwv i.toNat else h k i
theorem ok_copyF (a : Ac Γ p s m args meth c own cc nL rt) {idx kt : Nat} (d : decode cc pc = .ok (.invokestatic idx, 3)) (lk : LkC own idx) (hk2 : kt < n) (hc2 : kd kt = (10, 4)) (hfr : 1 ≤ R.frames) (hlo : (st.map catA).sum + (nativeFrameWords "java/lang/System" "arraycopy" 5 + 11) ≤ R.locals)
    (kk : OK Γ p l e R s m args below meth c n0 Q (pc + 3) L st n g (cpF h kt)) : OK Γ p l e R s m args below meth c n0 Q pc L (vI 4 :: vI 0 :: vR kt :: vI 0 :: vR 1001 :: st) n g h := by
  intro H locs ls hH hS hL T hT X
  obtain ⟨hn, hP⟩ := hH
  have he2 := aw_at (Γ := Γ) (g := g) (h := h) hk2
  rw [cw_arr (t := 0) hc2 (by decide)] at he2
  obtain ⟨q1, q2, q3, q4, q5⟩ := a.2.2.2.2.2.2.2
  obtain ⟨cell, t1, t2, t3, t4, t5, t6, t7⟩ := q4
  have hsrc : H[Γ.2.2.2.2]? = some cell := by rw [hS.2.1 _ (Array.getElem?_eq_some_iff.mp t1).1 t7]; exact t1
  have hc1 : H[Γ.2.2.1 + kt]? = some (vp_cell (Γ.2.1 0) (4, .inl (fun j : Nat => Int32.ofInt (h kt (j : Int))))) := hP kt _ he2
  obtain ⟨hst, ks, hks, comp, hkk⟩ := t2
  obtain ⟨-, k1, hk1, cm1, hkk1⟩ := (q1.2 0 _ rfl).1 4 (fun j => .int (Int32.ofInt (h kt (j : Int))))
  have hget : ∀ i, i < 4 → cell.slots.getD (0 + i) .null = .int (Int32.ofInt (fwv i)) := fun i hi => by
    rw [Nat.zero_add, Array.getD_eq_getD_getElem?, t6 i hi]
    rfl
  have c4 : (Int32.ofInt 4).toNatClampNeg = 4 := by decide
  have c0 : (Int32.ofInt 0).toNatClampNeg = 0 := by decide
  obtain ⟨vm', X', step⟩ := X.arraycopy a.1 a.2.2.2.2.2.1 (a.2.2.2.2.2.2.1 _ lk.1) (a.2.2.2.2.2.2.1 _ lk.2.1) (a.2.2.2.2.2.2.1 _ lk.2.2.1) (a.2.2.2.2.2.2.1 _ lk.2.2.2) (src := Γ.2.2.2.2) (dst := Γ.2.2.1 + kt) (cs := cell) (cd := vp_cell (Γ.2.1 0) (4, .inl (fun j : Nat => Int32.ofInt (h kt (j : Int))))) (srcPos := Int32.ofInt 0) (destPos := Int32.ofInt 0) (n := Int32.ofInt 4) (by rw [hT]; exact hsrc) (by rw [hT]; exact hc1)
    hst (fun _ h => by cases h) t3 (fun h => by cases h) hks hk1 hkk hkk1 (by rfl) (by decide) (by decide) (by decide)
    (by show ¬ ((0 : Int) + 4 > (cell.slots.size : Int)); omega)
    (by show ¬ ((0 : Int) + 4 > ((arrV (Γ.2.1 0) 4 (fun j : Nat => Value.int (Int32.ofInt (h kt (j : Int))))).slots.size : Int)); rw [arrV_size]; omega)
    (fun vm₁ _ i hi => by
      rw [c4] at hi
      rw [c0, hget i hi]
      exact ⟨rfl, trivial⟩)
    (g := F0 m pc ls ((vI 4 :: vI 0 :: vR kt :: vI 0 :: vR 1001 :: st).map (enc Γ))) rfl (by rw [hL.1]) (rest := st.map (enc Γ)) (by show (vI 4 :: vI 0 :: vR kt :: vI 0 :: vR 1001 :: st).map (enc Γ) = _; simp only [List.map_cons, enc_R (Γ := Γ) (show kt < 1000 by omega)]; rfl) (by rw [a.2.1]; exact d) hfr (by show 2 * 0 + _ + _ ≤ _; rw [cat_sum]; omega)
  have e1 : copied cell (vp_cell (Γ.2.1 0) (4, .inl (fun j : Nat => Int32.ofInt (h kt (j : Int))))) (Int32.ofInt 0) (Int32.ofInt 0) (Int32.ofInt 4) = vp_cell (Γ.2.1 0) (4, .inl (fun j : Nat => Int32.ofInt (cpF h kt kt (j : Int)))) := by
    have es : cell.stretch (Int32.ofInt 0).toNatClampNeg (Int32.ofInt 4).toNatClampNeg = (List.range 4).map (fun i => Value.int (Int32.ofInt (fwv i))) := by
      rw [c0, c4]
      unfold Cell.stretch
      apply List.map_congr_left
      intro i hi
      exact hget i (List.mem_range.mp hi)
    show (arrV (Γ.2.1 0) 4 (fun j : Nat => Value.int (Int32.ofInt (h kt (j : Int))))).storeRun (Int32.ofInt 0).toNatClampNeg (cell.stretch (Int32.ofInt 0).toNatClampNeg (Int32.ofInt 4).toNatClampNeg) = arrV (Γ.2.1 0) 4 (fun j : Nat => Value.int (Int32.ofInt (cpF h kt kt (j : Int))))
    rw [es, Cell.storeRun, va_pairs, c0]
    congr 1
    funext k
    simp only [List.length_map, List.length_range, Nat.add_zero, Nat.zero_add, Nat.zero_le, true_and]
    by_cases hk : k < 4
    · rw [if_pos hk, List.getD_eq_getElem?_getD, List.getElem?_map, List.getElem?_range (by omega)]
      have : kt = kt ∧ 0 ≤ (k : Int) ∧ (k : Int) < 4 := ⟨rfl, by omega, by omega⟩
      show Value.int (Int32.ofInt (fwv (k - 0))) = Value.int (Int32.ofInt (if kt = kt ∧ 0 ≤ (k : Int) ∧ (k : Int) < 4 then fwv (k : Int).toNat else h kt (k : Int)))
      rw [if_pos this, Nat.sub_zero]
      rfl
    · rw [if_neg hk]
      have : ¬ (kt = kt ∧ 0 ≤ (k : Int) ∧ (k : Int) < 4) := fun q => hk (by omega)
      show Value.int (Int32.ofInt (h kt (k : Int))) = Value.int (Int32.ofInt (if kt = kt ∧ 0 ≤ (k : Int) ∧ (k : Int) < 4 then fwv (k : Int).toNat else h kt (k : Int)))
      rw [if_neg this]
  rw [e1] at X' step
  have hl : Γ.2.2.1 + kt < H.size := (Array.getElem?_eq_some_iff.mp hc1).1
  have hset : (aw Γ n g h).set kt (Γ.2.2.1 + kt, .inl (Γ.2.1 0, 4, .inl (fun j : Nat => Int32.ofInt (cpF h kt kt (j : Int))))) = aw Γ n g (cpF h kt) := by
    refine aw_set hk2 ?_ ?_
    · rw [cw_arr (t := 0) hc2 (by decide)]
    · intro k' hk'
      have e : ∀ j, cpF h kt k' j = h k' j := fun j => by simp [cpF, hk']
      unfold cw
      simp only [e]
  have oq : ∀ q : Nat, q ≠ Γ.2.2.1 + kt → (H.setIfInBounds (Γ.2.2.1 + kt) (vp_cell (Γ.2.1 0) (4, .inl (fun j : Nat => Int32.ofInt (cpF h kt kt (j : Int))))))[q]? = H[q]? := fun q hq => by simp [Array.getElem?_setIfInBounds, Ne.symm hq]
  have hAk : AA Γ (Γ.2.2.1 + kt) := by show Γ.2.2.1 ≤ Γ.2.2.1 + kt; omega
  obtain ⟨t, a1, b1⟩ := kk (H.setIfInBounds (Γ.2.2.1 + kt) (vp_cell (Γ.2.1 0) (4, .inl (fun j : Nat => Int32.ofInt (cpF h kt kt (j : Int)))))) _ ls ⟨hn, by rw [← hset]; exact hP.set aw_D he2 (show (H.setIfInBounds (Γ.2.2.1 + kt) _)[Γ.2.2.1 + kt]? = some _ by simp [Array.getElem?_setIfInBounds, hl]) oq⟩ ⟨by simp; exact hS.1, fun q g1 g2 => by
      rw [oq q (fun e => g2 (by rw [e]; exact hAk))]
      exact hS.2.1 q g1 g2, fun q hq => by
      rcases List.mem_append.mp hq with h | h
      · exact hS.2.2 q h
      · obtain ⟨z, -, hz⟩ := List.mem_map.mp h
        rw [← hz]
        exact hAk⟩ hL _ (by rw [← hT]; rfl) X'
  exact ⟨t, step t a1, b1⟩
end FIRSTW
