section LAST
variable {Γ : Gm} {p : Program} {l : Launch} {e : Env} {R : Room} {s : State} {m : MethodId} {args : Array Value} {below : List Frame} {meth : Method} {c : Code} {own : String} {cc : ByteArray} {nL : Nat} {rt : Option FieldType} {n0 : Nat} {Q : State → Prop} {pc : Nat} {L : List (Option aV)} {st : List aV} {n : Nat} {g : aG} {h : aH}
theorem ok_fI {idx ci j k : Nat} (jI : Int) (a : Ac Γ p s m args meth c own cc nL rt) (d : decode cc pc = .ok (.getfield idx, 3)) (f : Lf own idx ci j) (hk : k < n) (hc : (kd k).1 = ci) (ht : tyOf ci j = .int) (hj : (j : Int) = jI) (kk : OK Γ p l e R s m args below meth c n0 Q (pc + 3) L (vI (h k jI) :: st) n g h) : OK Γ p l e R s m args below meth c n0 Q pc L (vR k :: st) n g h := by
  subst hj
  exact ok_getI a d f hk hc (Or.inl ht) kk
theorem ok_fZ {idx ci j k : Nat} (jI : Int) (a : Ac Γ p s m args meth c own cc nL rt) (d : decode cc pc = .ok (.getfield idx, 3)) (f : Lf own idx ci j) (hk : k < n) (hc : (kd k).1 = ci) (ht : tyOf ci j = .boolean) (hj : (j : Int) = jI) (kk : OK Γ p l e R s m args below meth c n0 Q (pc + 3) L (vI (h k jI) :: st) n g h) : OK Γ p l e R s m args below meth c n0 Q pc L (vR k :: st) n g h := by
  subst hj
  exact ok_getI a d f hk hc (Or.inr ht) kk
theorem ok_fJ {idx ci j k : Nat} (jI : Int) (a : Ac Γ p s m args meth c own cc nL rt) (d : decode cc pc = .ok (.getfield idx, 3)) (f : Lf own idx ci j) (hk : k < n) (hc : (kd k).1 = ci) (ht : tyOf ci j = .long) (hj : (j : Int) = jI) (kk : OK Γ p l e R s m args below meth c n0 Q (pc + 3) L (vL (h k jI) :: st) n g h) : OK Γ p l e R s m args below meth c n0 Q pc L (vR k :: st) n g h := by
  subst hj
  exact ok_getL a d f hk hc ht kk
theorem ok_pI {idx ci j k : Nat} {x : Int} (jI : Int) (a : Ac Γ p s m args meth c own cc nL rt) (d : decode cc pc = .ok (.putfield idx, 3)) (f : Lf own idx ci j) (hfin : (cT ci j).2.2.2 = false) (hk : k < n) (hc : (kd k).1 = ci) (ht : tyOf ci j = .int) (hj : (j : Int) = jI) (kk : ∀ h1, h1 = up h k jI x → OK Γ p l e R s m args below meth c n0 Q (pc + 3) L st n g h1) : OK Γ p l e R s m args below meth c n0 Q pc L (vI x :: vR k :: st) n g h := by
  subst hj
  exact ok_putI a d f hfin hk hc ht (kk _ rfl)
theorem ok_pJ {idx ci j k : Nat} {x : Int} (jI : Int) (a : Ac Γ p s m args meth c own cc nL rt) (d : decode cc pc = .ok (.putfield idx, 3)) (f : Lf own idx ci j) (hfin : (cT ci j).2.2.2 = false) (hk : k < n) (hc : (kd k).1 = ci) (ht : tyOf ci j = .long) (hj : (j : Int) = jI) (kk : ∀ h1, h1 = up h k jI x → OK Γ p l e R s m args below meth c n0 Q (pc + 3) L st n g h1) : OK Γ p l e R s m args below meth c n0 Q pc L (vL x :: vR k :: st) n g h := by
  subst hj
  exact ok_putL a d f hfin hk hc ht (kk _ rfl)
theorem ok_pZ {idx ci j k : Nat} {x : Int} (jI : Int) (a : Ac Γ p s m args meth c own cc nL rt) (d : decode cc pc = .ok (.putfield idx, 3)) (f : Lf own idx ci j) (hfin : (cT ci j).2.2.2 = false) (hk : k < n) (hc : (kd k).1 = ci) (ht : tyOf ci j = .boolean) (hj : (j : Int) = jI) (hx : x = 0 ∨ x = 1) (kk : ∀ h1, h1 = up h k jI x → OK Γ p l e R s m args below meth c n0 Q (pc + 3) L st n g h1) : OK Γ p l e R s m args below meth c n0 Q pc L (vI x :: vR k :: st) n g h := by
  subst hj
  exact ok_putZ a d f hfin hk hc ht hx (kk _ rfl)
theorem ok_al {k len : Nat} (lI : Int) (a : Ac Γ p s m args meth c own cc nL rt) (d : decode cc pc = .ok (.arraylength, 1)) (hk : k < n) (hc : kd k = (10, len)) (h4 : 0 < 4) (hl : (len : Int) = lI) (kk : OK Γ p l e R s m args below meth c n0 Q (pc + 1) L (vI lI :: st) n g h) : OK Γ p l e R s m args below meth c n0 Q pc L (vR k :: st) n g h := by
  subst hl
  exact ok_alen (t := 0) a d hk hc h4 kk
end LAST
def Lkmin (own : String) (idx : Nat) : Prop := Cond.methodLink own idx Lib.Math.min.name ∈ gtb ∧ Cond.static Lib.Math.min.name ∈ gtb ∧ Cond.initialized "java/lang/Math" ∈ gtb ∧ Cond.code Lib.Math.min.name Lib.Math.min.code 2 (some .int) ∈ gtb
def Lkmax (own : String) (idx : Nat) : Prop := Cond.methodLink own idx Lib.Math.max.name ∈ gtb ∧ Cond.static Lib.Math.max.name ∈ gtb ∧ Cond.initialized "java/lang/Math" ∈ gtb ∧ Cond.code Lib.Math.max.name Lib.Math.max.code 2 (some .int) ∈ gtb
section MATH
variable {Γ : Gm} {p : Program} {l : Launch} {e : Env} {R : Room} {s : State} {m : MethodId} {args : Array Value} {below : List Frame} {meth : Method} {c : Code} {own : String} {cc : ByteArray} {nL : Nat} {rt : Option FieldType} {n0 : Nat} {Q : State → Prop} {pc : Nat} {L : List (Option aV)} {st : List aV} {n : Nat} {g : aG} {h : aH}
theorem ok_mmin {d0 : Nat} {idx : Nat} {x y : Int} (a : Ac Γ p s m args meth c own cc nL rt) (d : decode cc pc = .ok (.invokestatic idx, 3)) (lk : Lkmin own idx) (hx : inR x) (hy : inR y) (hfr : 1 ≤ (rmd d0 n n).frames) (hlo : (st.map catA).sum + 13 ≤ (rmd d0 n n).locals) (kk : OK Γ p l e (rmd d0 n n) s m args below meth c n Q (pc + 3) L (vI (min x y) :: st) n g h) : OK Γ p l e (rmd d0 n n) s m args below meth c n Q pc L (vI y :: vI x :: st) n g h := by
  intro H locs ls hH hS hL
  have k1 := kk H locs ls hH hS hL
  have e1 : (if Int32.ofInt y < Int32.ofInt x then Int32.ofInt y else Int32.ofInt x) = Int32.ofInt (min x y) := by
    by_cases hq : y < x
    · rw [if_pos ((i32_lt hy hx).mpr hq), show min x y = y by omega]
    · rw [if_neg (fun z => hq ((i32_lt hy hx).mp z)), show min x y = x by omega]
  simp only [List.map_cons, enc, ← e1] at k1
  exact va_mmin a.1 a.2.1 hL.1.symm a.2.2.2.2.2.1 (a.2.2.2.2.2.2.1 _ lk.1) (a.2.2.2.2.2.2.1 _ lk.2.1) (a.2.2.2.2.2.2.1 _ lk.2.2.1) (a.2.2.2.2.2.2.1 _ lk.2.2.2) hfr (by rw [cat_sum]; exact hlo) (Nat.le_refl _) (Nat.le_refl _) d k1
theorem ok_mmax {d0 : Nat} {idx : Nat} {x y : Int} (a : Ac Γ p s m args meth c own cc nL rt) (d : decode cc pc = .ok (.invokestatic idx, 3)) (lk : Lkmax own idx) (hx : inR x) (hy : inR y) (hfr : 1 ≤ (rmd d0 n n).frames) (hlo : (st.map catA).sum + 13 ≤ (rmd d0 n n).locals) (kk : OK Γ p l e (rmd d0 n n) s m args below meth c n Q (pc + 3) L (vI (max x y) :: st) n g h) : OK Γ p l e (rmd d0 n n) s m args below meth c n Q pc L (vI y :: vI x :: st) n g h := by
  intro H locs ls hH hS hL
  have k1 := kk H locs ls hH hS hL
  have e1 : (if Int32.ofInt x < Int32.ofInt y then Int32.ofInt y else Int32.ofInt x) = Int32.ofInt (max x y) := by
    by_cases hq : x < y
    · rw [if_pos ((i32_lt hx hy).mpr hq), show max x y = y by omega]
    · rw [if_neg (fun z => hq ((i32_lt hx hy).mp z)), show max x y = x by omega]
  simp only [List.map_cons, enc, ← e1] at k1
  exact va_mmax a.1 a.2.1 hL.1.symm a.2.2.2.2.2.1 (a.2.2.2.2.2.2.1 _ lk.1) (a.2.2.2.2.2.2.1 _ lk.2.1) (a.2.2.2.2.2.2.1 _ lk.2.2.1) (a.2.2.2.2.2.2.1 _ lk.2.2.2) hfr (by rw [cat_sum]; exact hlo) (Nat.le_refl _) (Nat.le_refl _) d k1
end MATH
