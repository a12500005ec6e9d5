section ROWS
variable {Γ : Gm} {p : Program} {l : Launch} {e : Env} {R : Room} {s : State} {m : MethodId} {args : Array Value} {below : List Frame} {meth : Method} {c : Code} {own : String} {cc : ByteArray} {nL : Nat} {rt : Option FieldType} {n0 : Nat} {Q : State → Prop} {pc : Nat} {L : List (Option aV)} {st : List aV} {n : Nat} {g : aG} {h : aH}
theorem i32T {x : Int} (h : inR x) : (Int32.ofInt x).toInt = x := Int32.toInt_ofInt_of_le (by have := h.1; omega) (by have := h.2; omega)
theorem i64T {x : Int} (h : inL x) : (Int64.ofInt x).toInt = x := Int64.toInt_ofInt_of_le (by have := h.1; omega) (by have := h.2; omega)
theorem i32_eq {x y : Int} (hx : inR x) (hy : inR y) : Int32.ofInt x = Int32.ofInt y ↔ x = y := ⟨fun q => by rw [← i32T hx, ← i32T hy, q], fun q => by rw [q]⟩
theorem i32_lt {x y : Int} (hx : inR x) (hy : inR y) : Int32.ofInt x < Int32.ofInt y ↔ x < y := by rw [Int32.lt_iff_toInt_lt, i32T hx, i32T hy]
theorem i32_le {x y : Int} (hx : inR x) (hy : inR y) : Int32.ofInt x ≤ Int32.ofInt y ↔ x ≤ y := by rw [Int32.le_iff_toInt_le, i32T hx, i32T hy]
theorem inR0 : inR 0 := ⟨by decide, by decide⟩
theorem i32_0 : (0 : Int32) = Int32.ofInt 0 := by decide
theorem i32_cl {x : Int} (h0 : 0 ≤ x) (h1 : x < 2147483648) : (Int32.ofInt x).toNatClampNeg = x.toNat := by
  show (Int32.ofInt x).toInt.toNat = x.toNat
  rw [i32T ⟨by omega, h1⟩]
theorem i32_in {x : Int} {N : Nat} (h0 : 0 ≤ x) (h1 : x < N) (hN : N < 2147483648) : vp_in (Int32.ofInt x) N := by
  rw [vp_in_iff, i32T ⟨by omega, by omega⟩]
  exact ⟨h0, h1⟩
theorem ok_iconst (a : Ac Γ p s m args meth c own cc nL rt) {k : Int} (d : decode cc pc = .ok (.iconst k, 1)) (kk : OK Γ p l e R s m args below meth c n0 Q (pc + 1) L (vI k :: st) n g h) : OK Γ p l e R s m args below meth c n0 Q pc L st n g h := by
  intro H locs ls hH hS hL
  exact lv_iconst a.1 a.2.1 d rfl (kk H locs ls hH hS hL)
theorem ok_bipush (a : Ac Γ p s m args meth c own cc nL rt) {k : Int} (d : decode cc pc = .ok (.bipush k, 2)) (hv : (Int8.ofInt k).toInt32 = Int32.ofInt k) (kk : OK Γ p l e R s m args below meth c n0 Q (pc + 2) L (vI k :: st) n g h) : OK Γ p l e R s m args below meth c n0 Q pc L st n g h := by
  intro H locs ls hH hS hL
  exact lv_bipush a.1 a.2.1 d hv (kk H locs ls hH hS hL)
theorem ok_sipush (a : Ac Γ p s m args meth c own cc nL rt) {k : Int} (d : decode cc pc = .ok (.sipush k, 3)) (hv : (Int16.ofInt k).toInt32 = Int32.ofInt k) (kk : OK Γ p l e R s m args below meth c n0 Q (pc + 3) L (vI k :: st) n g h) : OK Γ p l e R s m args below meth c n0 Q pc L st n g h := by
  intro H locs ls hH hS hL
  exact lv_sipush a.1 a.2.1 d hv (kk H locs ls hH hS hL)
theorem ok_lconst (a : Ac Γ p s m args meth c own cc nL rt) {k : Fin 2} {x : Int} (d : decode cc pc = .ok (.lconst k, 1)) (hv : Int64.ofNat (k : Nat) = Int64.ofInt x) (kk : OK Γ p l e R s m args below meth c n0 Q (pc + 1) L (vL x :: st) n g h) : OK Γ p l e R s m args below meth c n0 Q pc L st n g h := by
  intro H locs ls hH hS hL
  exact lv_lconst a.1 a.2.1 d hv (kk H locs ls hH hS hL)
theorem ok_ldc (a : Ac Γ p s m args meth c own cc nL rt) {i : Nat} {v : Int32} {x : Int} (d : decode cc pc = .ok (.ldc i, 2)) (hw : Cond.constant own i v ∈ gtb) (hv : v = Int32.ofInt x) (kk : OK Γ p l e R s m args below meth c n0 Q (pc + 2) L (vI x :: st) n g h) : OK Γ p l e R s m args below meth c n0 Q pc L st n g h := by
  intro H locs ls hH hS hL
  subst hv
  exact lv_ldc a.1 a.2.1 a.2.2.2.2.2.1 (a.2.2.2.2.2.2.1 _ hw) d (kk H locs ls hH hS hL)
theorem ok_ldcw (a : Ac Γ p s m args meth c own cc nL rt) {i : Nat} {v : Int32} {x : Int} (d : decode cc pc = .ok (.ldc_w i, 3)) (hw : Cond.constant own i v ∈ gtb) (hv : v = Int32.ofInt x) (kk : OK Γ p l e R s m args below meth c n0 Q (pc + 3) L (vI x :: st) n g h) : OK Γ p l e R s m args below meth c n0 Q pc L st n g h := by
  intro H locs ls hH hS hL
  subst hv
  exact lv_ldcw a.1 a.2.1 a.2.2.2.2.2.1 (a.2.2.2.2.2.2.1 _ hw) d (kk H locs ls hH hS hL)
theorem ok_ldc2 (a : Ac Γ p s m args meth c own cc nL rt) {i : Nat} {v : Int64} {x : Int} (d : decode cc pc = .ok (.ldc2_w i, 3)) (hw : Cond.constantLong own i v ∈ gtb) (hv : v = Int64.ofInt x) (kk : OK Γ p l e R s m args below meth c n0 Q (pc + 3) L (vL x :: st) n g h) : OK Γ p l e R s m args below meth c n0 Q pc L st n g h := by
  intro H locs ls hH hS hL
  subst hv
  exact lv_ldc2 a.1 a.2.1 a.2.2.2.2.2.1 (a.2.2.2.2.2.2.1 _ hw) d (kk H locs ls hH hS hL)
theorem ok_iload_n (a : Ac Γ p s m args meth c own cc nL rt) {k : Fin 4} {i : Nat} {x : Int} (d : decode cc pc = .ok (.iload_n k, 1)) (hi : (k : Nat) = i) (hl : L[i]? = some (some (vI x))) (kk : OK Γ p l e R s m args below meth c n0 Q (pc + 1) L (vI x :: st) n g h) : OK Γ p l e R s m args below meth c n0 Q pc L st n g h := by
  intro H locs ls hH hS hL
  exact lv_iload_n a.1 a.2.1 d hi (hL.2.2.2 i _ hl) (kk H locs ls hH hS hL)
theorem ok_iload (a : Ac Γ p s m args meth c own cc nL rt) {i : Nat} {x : Int} (d : decode cc pc = .ok (.iload i, 2)) (hl : L[i]? = some (some (vI x))) (kk : OK Γ p l e R s m args below meth c n0 Q (pc + 2) L (vI x :: st) n g h) : OK Γ p l e R s m args below meth c n0 Q pc L st n g h := by
  intro H locs ls hH hS hL
  exact lv_iload a.1 a.2.1 d (hL.2.2.2 i _ hl) (kk H locs ls hH hS hL)
theorem ok_lload_n (a : Ac Γ p s m args meth c own cc nL rt) {k : Fin 4} {i : Nat} {x : Int} (d : decode cc pc = .ok (.lload_n k, 1)) (hi : (k : Nat) = i) (hl : L[i]? = some (some (vL x))) (kk : OK Γ p l e R s m args below meth c n0 Q (pc + 1) L (vL x :: st) n g h) : OK Γ p l e R s m args below meth c n0 Q pc L st n g h := by
  intro H locs ls hH hS hL
  exact lv_lload_n a.1 a.2.1 d hi (hL.2.2.2 i _ hl) (kk H locs ls hH hS hL)
theorem ok_lload (a : Ac Γ p s m args meth c own cc nL rt) {i : Nat} {x : Int} (d : decode cc pc = .ok (.lload i, 2)) (hl : L[i]? = some (some (vL x))) (kk : OK Γ p l e R s m args below meth c n0 Q (pc + 2) L (vL x :: st) n g h) : OK Γ p l e R s m args below meth c n0 Q pc L st n g h := by
  intro H locs ls hH hS hL
  exact lv_lload a.1 a.2.1 d (hL.2.2.2 i _ hl) (kk H locs ls hH hS hL)
theorem ok_aload_n (a : Ac Γ p s m args meth c own cc nL rt) {k : Fin 4} {i x : Nat} (d : decode cc pc = .ok (.aload_n k, 1)) (hi : (k : Nat) = i) (hl : L[i]? = some (some (vR x))) (kk : OK Γ p l e R s m args below meth c n0 Q (pc + 1) L (vR x :: st) n g h) : OK Γ p l e R s m args below meth c n0 Q pc L st n g h := by
  intro H locs ls hH hS hL
  exact lv_aload_n a.1 a.2.1 d hi (hL.2.2.2 i _ hl) (kk H locs ls hH hS hL)
theorem ok_aload (a : Ac Γ p s m args meth c own cc nL rt) {i x : Nat} (d : decode cc pc = .ok (.aload i, 2)) (hl : L[i]? = some (some (vR x))) (kk : OK Γ p l e R s m args below meth c n0 Q (pc + 2) L (vR x :: st) n g h) : OK Γ p l e R s m args below meth c n0 Q pc L st n g h := by
  intro H locs ls hH hS hL
  exact lv_aload a.1 a.2.1 d (hL.2.2.2 i _ hl) (kk H locs ls hH hS hL)
theorem ok_istore_n (a : Ac Γ p s m args meth c own cc nL rt) {k : Fin 4} {i : Nat} {x : Int} (d : decode cc pc = .ok (.istore_n k, 1)) (hi : (k : Nat) = i) (hn : i < nL) (hg : nlg L i = true) (kk : OK Γ p l e R s m args below meth c n0 Q (pc + 1) (L.set i (some (vI x))) st n g h) : OK Γ p l e R s m args below meth c n0 Q pc L (vI x :: st) n g h := by
  intro H locs ls hH hS hL
  exact lv_istore_n a.1 a.2.1 d hi hL.has (by rw [a.2.2.1]; exact hn) rfl (fun ls' hl' => kk H locs ls' hH hS (hL.st1 hg hl'))
theorem ok_istore (a : Ac Γ p s m args meth c own cc nL rt) {i : Nat} {x : Int} (d : decode cc pc = .ok (.istore i, 2)) (hn : i < nL) (hg : nlg L i = true) (kk : OK Γ p l e R s m args below meth c n0 Q (pc + 2) (L.set i (some (vI x))) st n g h) : OK Γ p l e R s m args below meth c n0 Q pc L (vI x :: st) n g h := by
  intro H locs ls hH hS hL
  exact lv_istore a.1 a.2.1 d hL.has (by rw [a.2.2.1]; exact hn) rfl (fun ls' hl' => kk H locs ls' hH hS (hL.st1 hg hl'))
theorem ok_astore_n (a : Ac Γ p s m args meth c own cc nL rt) {k : Fin 4} {i x : Nat} (d : decode cc pc = .ok (.astore_n k, 1)) (hi : (k : Nat) = i) (hn : i < nL) (hg : nlg L i = true) (kk : OK Γ p l e R s m args below meth c n0 Q (pc + 1) (L.set i (some (vR x))) st n g h) : OK Γ p l e R s m args below meth c n0 Q pc L (vR x :: st) n g h := by
  intro H locs ls hH hS hL
  exact lv_astore_n a.1 a.2.1 d hi hL.has (by rw [a.2.2.1]; exact hn) rfl (fun ls' hl' => kk H locs ls' hH hS (hL.st1 hg hl'))
theorem ok_lstore_n (a : Ac Γ p s m args meth c own cc nL rt) {k : Fin 4} {i : Nat} {x : Int} (d : decode cc pc = .ok (.lstore_n k, 1)) (hi : (k : Nat) = i) (hn : i + 1 < nL) (hg : nlg L i = true) (kk : OK Γ p l e R s m args below meth c n0 Q (pc + 1) ((L.set i (some (vL x))).set (i + 1) none) st n g h) : OK Γ p l e R s m args below meth c n0 Q pc L (vL x :: st) n g h := by
  intro H locs ls hH hS hL
  exact lv_lstore_n a.1 a.2.1 d hi hL.has (by rw [a.2.2.1]; exact hn) rfl (fun ls' hl' => kk H locs ls' hH hS (hL.st2 hg hl'))
theorem ok_lstore (a : Ac Γ p s m args meth c own cc nL rt) {i : Nat} {x : Int} (d : decode cc pc = .ok (.lstore i, 2)) (hn : i + 1 < nL) (hg : nlg L i = true) (kk : OK Γ p l e R s m args below meth c n0 Q (pc + 2) ((L.set i (some (vL x))).set (i + 1) none) st n g h) : OK Γ p l e R s m args below meth c n0 Q pc L (vL x :: st) n g h := by
  intro H locs ls hH hS hL
  exact lv_lstore a.1 a.2.1 d hL.has (by rw [a.2.2.1]; exact hn) rfl (fun ls' hl' => kk H locs ls' hH hS (hL.st2 hg hl'))
theorem ok_iinc (a : Ac Γ p s m args meth c own cc nL rt) {i : Nat} {k x : Int} (d : decode cc pc = .ok (.iinc i k, 3)) (hl : L[i]? = some (some (vI x))) (hn : i < nL) (hg : nlg L i = true) (kk : OK Γ p l e R s m args below meth c n0 Q (pc + 3) (L.set i (some (vI (x + k)))) st n g h) : OK Γ p l e R s m args below meth c n0 Q pc L st n g h := by
  intro H locs ls hH hS hL
  obtain ⟨q, hq⟩ := List.getElem?_of_mem (lvOf_mem (Γ := Γ) hl)
  exact lv_iinc a.1 a.2.1 d hL.has hq (Int32.ofInt_add x k).symm (by rw [a.2.2.1]; exact hn) rfl (fun ls' hl' => kk H locs ls' hH hS (hL.st1 (v := vI (x + k)) hg hl'))
theorem ok_forget (i : Nat) (kk : OK Γ p l e R s m args below meth c n0 Q pc (L.set i none) st n g h) : OK Γ p l e R s m args below meth c n0 Q pc L st n g h := fun H locs ls hH hS hL => kk H locs ls hH hS (hL.drop i)
theorem ok_goto (a : Ac Γ p s m args meth c own cc nL rt) {off : Int} (tgt : Nat) (d : decode cc pc = .ok (.goto off, 3)) (ht : (pc : Int) + off = (tgt : Int)) (kk : OK Γ p l e R s m args below meth c n0 Q tgt L st n g h) : OK Γ p l e R s m args below meth c n0 Q pc L st n g h := by
  intro H locs ls hH hS hL
  exact lv_goto a.1 a.2.1 d ht (kk H locs ls hH hS hL)
theorem ok_dup (a : Ac Γ p s m args meth c own cc nL rt) {v : aV} (d : decode cc pc = .ok (.dup, 1)) (hv : (enc Γ v).category = 1) (kk : OK Γ p l e R s m args below meth c n0 Q (pc + 1) L (v :: v :: st) n g h) : OK Γ p l e R s m args below meth c n0 Q pc L (v :: st) n g h := by
  intro H locs ls hH hS hL
  exact lv_dup a.1 a.2.1 d hv (kk H locs ls hH hS hL)
theorem ok_dup2 (a : Ac Γ p s m args meth c own cc nL rt) {v w : aV} (d : decode cc pc = .ok (.dup2, 1)) (hv : (enc Γ v).category = 1) (hw : (enc Γ w).category = 1) (kk : OK Γ p l e R s m args below meth c n0 Q (pc + 1) L (v :: w :: v :: w :: st) n g h) : OK Γ p l e R s m args below meth c n0 Q pc L (v :: w :: st) n g h := by
  intro H locs ls hH hS hL
  exact lv_dup2_11 a.1 a.2.1 d hv hw (kk H locs ls hH hS hL)
theorem ok_pop (a : Ac Γ p s m args meth c own cc nL rt) {v : aV} (d : decode cc pc = .ok (.pop, 1)) (hv : (enc Γ v).category = 1) (kk : OK Γ p l e R s m args below meth c n0 Q (pc + 1) L st n g h) : OK Γ p l e R s m args below meth c n0 Q pc L (v :: st) n g h := by
  intro H locs ls hH hS hL
  exact lv_pop a.1 a.2.1 d hv (kk H locs ls hH hS hL)
theorem ok_iadd (a : Ac Γ p s m args meth c own cc nL rt) {x y : Int} (d : decode cc pc = .ok (.iadd, 1)) (kk : OK Γ p l e R s m args below meth c n0 Q (pc + 1) L (vI (x + y) :: st) n g h) : OK Γ p l e R s m args below meth c n0 Q pc L (vI y :: vI x :: st) n g h := by
  intro H locs ls hH hS hL
  have k1 := kk H locs ls hH hS hL
  simp only [List.map_cons, enc, Int32.ofInt_add] at k1
  exact lv_iadd a.1 a.2.1 d k1
theorem ok_ladd (a : Ac Γ p s m args meth c own cc nL rt) {x y : Int} (d : decode cc pc = .ok (.ladd, 1)) (kk : OK Γ p l e R s m args below meth c n0 Q (pc + 1) L (vL (x + y) :: st) n g h) : OK Γ p l e R s m args below meth c n0 Q pc L (vL y :: vL x :: st) n g h := by
  intro H locs ls hH hS hL
  have k1 := kk H locs ls hH hS hL
  simp only [List.map_cons, enc, Int64.ofInt_add] at k1
  exact lv_ladd a.1 a.2.1 d k1
theorem ok_isub (a : Ac Γ p s m args meth c own cc nL rt) {x y : Int} (d : decode cc pc = .ok (.isub, 1)) (kk : OK Γ p l e R s m args below meth c n0 Q (pc + 1) L (vI (x - y) :: st) n g h) : OK Γ p l e R s m args below meth c n0 Q pc L (vI y :: vI x :: st) n g h := by
  intro H locs ls hH hS hL
  have k1 := kk H locs ls hH hS hL
  simp only [List.map_cons, enc, Int32.ofInt_sub] at k1
  exact lv_isub a.1 a.2.1 d k1
theorem ok_lsub (a : Ac Γ p s m args meth c own cc nL rt) {x y : Int} (d : decode cc pc = .ok (.lsub, 1)) (kk : OK Γ p l e R s m args below meth c n0 Q (pc + 1) L (vL (x - y) :: st) n g h) : OK Γ p l e R s m args below meth c n0 Q pc L (vL y :: vL x :: st) n g h := by
  intro H locs ls hH hS hL
  have k1 := kk H locs ls hH hS hL
  simp only [List.map_cons, enc, Int64.ofInt_sub] at k1
  exact lv_lsub a.1 a.2.1 d k1
theorem ok_imul (a : Ac Γ p s m args meth c own cc nL rt) {x y : Int} (d : decode cc pc = .ok (.imul, 1)) (kk : OK Γ p l e R s m args below meth c n0 Q (pc + 1) L (vI (x * y) :: st) n g h) : OK Γ p l e R s m args below meth c n0 Q pc L (vI y :: vI x :: st) n g h := by
  intro H locs ls hH hS hL
  have k1 := kk H locs ls hH hS hL
  simp only [List.map_cons, enc, Int32.ofInt_mul] at k1
  exact lv_imul a.1 a.2.1 d k1
theorem ok_lmul (a : Ac Γ p s m args meth c own cc nL rt) {x y : Int} (d : decode cc pc = .ok (.lmul, 1)) (kk : OK Γ p l e R s m args below meth c n0 Q (pc + 1) L (vL (x * y) :: st) n g h) : OK Γ p l e R s m args below meth c n0 Q pc L (vL y :: vL x :: st) n g h := by
  intro H locs ls hH hS hL
  have k1 := kk H locs ls hH hS hL
  simp only [List.map_cons, enc, Int64.ofInt_mul] at k1
  exact lv_lmul a.1 a.2.1 d k1
def band (x y : Int) : Int := (Int32.ofInt x &&& Int32.ofInt y).toInt
theorem ok_iand (a : Ac Γ p s m args meth c own cc nL rt) {x y : Int} (d : decode cc pc = .ok (.iand, 1)) (kk : OK Γ p l e R s m args below meth c n0 Q (pc + 1) L (vI (band x y) :: st) n g h) : OK Γ p l e R s m args below meth c n0 Q pc L (vI y :: vI x :: st) n g h := by
  intro H locs ls hH hS hL
  have k1 := kk H locs ls hH hS hL
  simp only [List.map_cons, enc, band, Int32.ofInt_toInt] at k1
  exact lv_iand a.1 a.2.1 d k1
def bor (x y : Int) : Int := (Int32.ofInt x ||| Int32.ofInt y).toInt
theorem ok_ior (a : Ac Γ p s m args meth c own cc nL rt) {x y : Int} (d : decode cc pc = .ok (.ior, 1)) (kk : OK Γ p l e R s m args below meth c n0 Q (pc + 1) L (vI (bor x y) :: st) n g h) : OK Γ p l e R s m args below meth c n0 Q pc L (vI y :: vI x :: st) n g h := by
  intro H locs ls hH hS hL
  have k1 := kk H locs ls hH hS hL
  simp only [List.map_cons, enc, bor, Int32.ofInt_toInt] at k1
  exact lv_ior a.1 a.2.1 d k1
def bxor (x y : Int) : Int := (Int32.ofInt x ^^^ Int32.ofInt y).toInt
theorem ok_ixor (a : Ac Γ p s m args meth c own cc nL rt) {x y : Int} (d : decode cc pc = .ok (.ixor, 1)) (kk : OK Γ p l e R s m args below meth c n0 Q (pc + 1) L (vI (bxor x y) :: st) n g h) : OK Γ p l e R s m args below meth c n0 Q pc L (vI y :: vI x :: st) n g h := by
  intro H locs ls hH hS hL
  have k1 := kk H locs ls hH hS hL
  simp only [List.map_cons, enc, bxor, Int32.ofInt_toInt] at k1
  exact lv_ixor a.1 a.2.1 d k1
def bshl (x y : Int) : Int := (Int32.ofInt x <<< (Int32.ofInt y &&& 31)).toInt
def bshr (x y : Int) : Int := (Int32.ofInt x >>> (Int32.ofInt y &&& 31)).toInt
def bushr (x y : Int) : Int := ((Int32.ofInt x).toUInt32 >>> ((Int32.ofInt y).toUInt32 &&& Int32.toUInt32 31)).toInt32.toInt
theorem ok_ishl (a : Ac Γ p s m args meth c own cc nL rt) {x y : Int} (d : decode cc pc = .ok (.ishl, 1)) (kk : OK Γ p l e R s m args below meth c n0 Q (pc + 1) L (vI (bshl x y) :: st) n g h) : OK Γ p l e R s m args below meth c n0 Q pc L (vI y :: vI x :: st) n g h := by
  intro H locs ls hH hS hL
  have k1 := kk H locs ls hH hS hL
  simp only [List.map_cons, enc, bshl, Int32.ofInt_toInt] at k1
  exact lv_ishl a.1 a.2.1 d k1
theorem ok_ishr (a : Ac Γ p s m args meth c own cc nL rt) {x y : Int} (d : decode cc pc = .ok (.ishr, 1)) (kk : OK Γ p l e R s m args below meth c n0 Q (pc + 1) L (vI (bshr x y) :: st) n g h) : OK Γ p l e R s m args below meth c n0 Q pc L (vI y :: vI x :: st) n g h := by
  intro H locs ls hH hS hL
  have k1 := kk H locs ls hH hS hL
  simp only [List.map_cons, enc, bshr, Int32.ofInt_toInt] at k1
  exact lv_ishr a.1 a.2.1 d k1
theorem ok_iushr (a : Ac Γ p s m args meth c own cc nL rt) {x y : Int} (d : decode cc pc = .ok (.iushr, 1)) (kk : OK Γ p l e R s m args below meth c n0 Q (pc + 1) L (vI (bushr x y) :: st) n g h) : OK Γ p l e R s m args below meth c n0 Q pc L (vI y :: vI x :: st) n g h := by
  intro H locs ls hH hS hL
  have k1 := kk H locs ls hH hS hL
  simp only [List.map_cons, enc, bushr, Int32.ofInt_toInt] at k1
  exact lv_iushr a.1 a.2.1 d rfl k1
theorem i32_div {x y : Int} (h0 : 0 ≤ x) (h1 : x < 2147483648) (h2 : 0 < y) (h3 : y < 2147483648) : Int32.ofInt (x / y) = Int32.ofInt x / Int32.ofInt y := by
  rw [← Int32.ofInt_tdiv (by show (-2147483648 : Int) ≤ x; omega) (by show x ≤ (2147483647 : Int); omega) (by show (-2147483648 : Int) ≤ y; omega) (by show y ≤ (2147483647 : Int); omega), Int.tdiv_eq_ediv_of_nonneg h0]
theorem i64_div {x y : Int} (h0 : 0 ≤ x) (h1 : x < 9223372036854775808) (h2 : 0 < y) (h3 : y < 9223372036854775808) : Int64.ofInt (x / y) = Int64.ofInt x / Int64.ofInt y := by
  rw [← Int64.ofInt_tdiv (by show (-9223372036854775808 : Int) ≤ x; omega) (by show x ≤ (9223372036854775807 : Int); omega) (by show (-9223372036854775808 : Int) ≤ y; omega) (by show y ≤ (9223372036854775807 : Int); omega), Int.tdiv_eq_ediv_of_nonneg h0]
theorem ok_idiv (a : Ac Γ p s m args meth c own cc nL rt) {x y : Int} (d : decode cc pc = .ok (.idiv, 1)) (h0 : (0 ≤ x ∧ x < 2147483648) ∧ 0 < y ∧ y < 2147483648) (kk : OK Γ p l e R s m args below meth c n0 Q (pc + 1) L (vI (x / y) :: st) n g h) : OK Γ p l e R s m args below meth c n0 Q pc L (vI y :: vI x :: st) n g h := by
  intro H locs ls hH hS hL
  have k1 := kk H locs ls hH hS hL
  simp only [List.map_cons, enc, i32_div h0.1.1 h0.1.2 h0.2.1 h0.2.2] at k1
  exact lv_idiv a.1 a.2.1 d (by rw [i32_0, i32_eq ⟨by omega, by omega⟩ inR0]; omega) k1
theorem ok_irem (a : Ac Γ p s m args meth c own cc nL rt) {x y : Int} (d : decode cc pc = .ok (.irem, 1)) (h0 : (0 ≤ x ∧ x < 2147483648) ∧ 0 < y ∧ y < 2147483648) (kk : OK Γ p l e R s m args below meth c n0 Q (pc + 1) L (vI (x % y) :: st) n g h) : OK Γ p l e R s m args below meth c n0 Q pc L (vI y :: vI x :: st) n g h := by
  intro H locs ls hH hS hL
  have k1 := kk H locs ls hH hS hL
  have e : Int32.ofInt (x % y) = Int32.ofInt x - Int32.ofInt x / Int32.ofInt y * Int32.ofInt y := by
    rw [Int.emod_def, Int32.ofInt_sub, Int32.ofInt_mul, i32_div h0.1.1 h0.1.2 h0.2.1 h0.2.2, Int32.mul_comm]
  simp only [List.map_cons, enc, e] at k1
  exact lv_irem a.1 a.2.1 d (by rw [i32_0, i32_eq ⟨by omega, by omega⟩ inR0]; omega) k1
theorem i64_ne {y : Int} (h2 : 0 < y) (h3 : y < 9223372036854775808) : ¬ Int64.ofInt y = 0 := by
  intro q
  have := congrArg Int64.toInt q
  rw [i64T ⟨by omega, by omega⟩] at this
  have h0 : (0 : Int64).toInt = 0 := by decide
  omega
theorem ok_ldiv (a : Ac Γ p s m args meth c own cc nL rt) {x y : Int} (d : decode cc pc = .ok (.ldiv, 1)) (h0 : (0 ≤ x ∧ x < 9223372036854775808) ∧ 0 < y ∧ y < 9223372036854775808) (kk : OK Γ p l e R s m args below meth c n0 Q (pc + 1) L (vL (x / y) :: st) n g h) : OK Γ p l e R s m args below meth c n0 Q pc L (vL y :: vL x :: st) n g h := by
  intro H locs ls hH hS hL
  have k1 := kk H locs ls hH hS hL
  simp only [List.map_cons, enc, i64_div h0.1.1 h0.1.2 h0.2.1 h0.2.2] at k1
  exact lv_ldiv a.1 a.2.1 d (i64_ne h0.2.1 h0.2.2) k1
theorem ok_lrem (a : Ac Γ p s m args meth c own cc nL rt) {x y : Int} (d : decode cc pc = .ok (.lrem, 1)) (h0 : (0 ≤ x ∧ x < 9223372036854775808) ∧ 0 < y ∧ y < 9223372036854775808) (kk : OK Γ p l e R s m args below meth c n0 Q (pc + 1) L (vL (x % y) :: st) n g h) : OK Γ p l e R s m args below meth c n0 Q pc L (vL y :: vL x :: st) n g h := by
  intro H locs ls hH hS hL
  have k1 := kk H locs ls hH hS hL
  have e : Int64.ofInt (x % y) = Int64.ofInt x - Int64.ofInt x / Int64.ofInt y * Int64.ofInt y := by
    rw [Int.emod_def, Int64.ofInt_sub, Int64.ofInt_mul, i64_div h0.1.1 h0.1.2 h0.2.1 h0.2.2, Int64.mul_comm]
  simp only [List.map_cons, enc, e] at k1
  exact lv_lrem a.1 a.2.1 d (i64_ne h0.2.1 h0.2.2) k1
theorem ok_i2l (a : Ac Γ p s m args meth c own cc nL rt) {x : Int} (d : decode cc pc = .ok (.i2l, 1)) (hx : inR x) (kk : OK Γ p l e R s m args below meth c n0 Q (pc + 1) L (vL x :: st) n g h) : OK Γ p l e R s m args below meth c n0 Q pc L (vI x :: st) n g h := by
  intro H locs ls hH hS hL
  exact lv_i2l a.1 a.2.1 d (Int32.toInt64_ofInt (by show (-2147483648 : Int) ≤ x; exact hx.1) (by show x ≤ (2147483647 : Int); have := hx.2; omega)) (kk H locs ls hH hS hL)
theorem ofInt_nI {x : Int} (h0 : 0 ≤ x) : Int32.ofInt x = nI x.toNat := by
  obtain ⟨k, rfl⟩ := Int.eq_ofNat_of_zero_le h0
  first | rfl | simp [nI, Int32.ofInt_eq_ofNat]
theorem ok_i2c (a : Ac Γ p s m args meth c own cc nL rt) {x : Int} (d : decode cc pc = .ok (.i2c, 1)) (hx : 0 ≤ x ∧ x < 65536) (kk : OK Γ p l e R s m args below meth c n0 Q (pc + 1) L (vI x :: st) n g h) : OK Γ p l e R s m args below meth c n0 Q pc L (vI x :: st) n g h := by
  intro H locs ls hH hS hL
  refine lv_i2c a.1 a.2.1 d ?_ (kk H locs ls hH hS hL)
  rw [pk_char, ofInt_nI hx.1, pk_tn (by omega), Nat.mod_eq_of_lt (by omega)]
theorem i2s_id {x : Int} (hx : 0 ≤ x ∧ x < 32768) : (Int32.ofInt x).toInt16.toInt32 = Int32.ofInt x := by
  apply Int32.toInt_inj.mp
  rw [Int16.toInt_toInt32, Int32.toInt_toInt16, i32T ⟨by omega, by omega⟩]
  exact Int.bmod_eq_of_le (by omega) (by omega)
theorem ok_i2s (a : Ac Γ p s m args meth c own cc nL rt) {x : Int} (d : decode cc pc = .ok (.i2s, 1)) (hx : 0 ≤ x ∧ x < 32768) (kk : OK Γ p l e R s m args below meth c n0 Q (pc + 1) L (vI x :: st) n g h) : OK Γ p l e R s m args below meth c n0 Q pc L (vI x :: st) n g h := by
  intro H locs ls hH hS hL
  exact lv_i2s a.1 a.2.1 d (i2s_id hx) (kk H locs ls hH hS hL)
theorem ok_icmp_eq (a : Ac Γ p s m args meth c own cc nL rt) {x y off : Int} (tgt : Nat) (d : decode cc pc = .ok (.if_icmp .eq off, 3)) (ht : (pc : Int) + off = (tgt : Int)) (hx : inR x) (hy : inR y) (kt : x = y → OK Γ p l e R s m args below meth c n0 Q tgt L st n g h) (kf : ¬ x = y → OK Γ p l e R s m args below meth c n0 Q (pc + 3) L st n g h) : OK Γ p l e R s m args below meth c n0 Q pc L (vI y :: vI x :: st) n g h := by
  intro H locs ls hH hS hL
  exact lv_icmp_eq a.1 a.2.1 d ht (fun q => kt ((i32_eq hx hy).mp q) H locs ls hH hS hL) (fun q => kf (fun z => q ((i32_eq hx hy).mpr z)) H locs ls hH hS hL)
theorem ok_if_eq (a : Ac Γ p s m args meth c own cc nL rt) {x off : Int} (tgt : Nat) (d : decode cc pc = .ok (.ifCond .eq off, 3)) (ht : (pc : Int) + off = (tgt : Int)) (hx : inR x) (kt : x = 0 → OK Γ p l e R s m args below meth c n0 Q tgt L st n g h) (kf : ¬ x = 0 → OK Γ p l e R s m args below meth c n0 Q (pc + 3) L st n g h) : OK Γ p l e R s m args below meth c n0 Q pc L (vI x :: st) n g h := by
  intro H locs ls hH hS hL
  exact lv_if_eq a.1 a.2.1 d ht (fun q => kt ((i32_eq hx inR0).mp q) H locs ls hH hS hL) (fun q => kf (fun z => q ((i32_eq hx inR0).mpr z)) H locs ls hH hS hL)
theorem ok_icmp_ne (a : Ac Γ p s m args meth c own cc nL rt) {x y off : Int} (tgt : Nat) (d : decode cc pc = .ok (.if_icmp .ne off, 3)) (ht : (pc : Int) + off = (tgt : Int)) (hx : inR x) (hy : inR y) (kt : ¬ x = y → OK Γ p l e R s m args below meth c n0 Q tgt L st n g h) (kf : x = y → OK Γ p l e R s m args below meth c n0 Q (pc + 3) L st n g h) : OK Γ p l e R s m args below meth c n0 Q pc L (vI y :: vI x :: st) n g h := by
  intro H locs ls hH hS hL
  exact lv_icmp_ne a.1 a.2.1 d ht (fun q => kt (fun z => q ((i32_eq hx hy).mpr z)) H locs ls hH hS hL) (fun q => kf ((i32_eq hx hy).mp q) H locs ls hH hS hL)
theorem ok_if_ne (a : Ac Γ p s m args meth c own cc nL rt) {x off : Int} (tgt : Nat) (d : decode cc pc = .ok (.ifCond .ne off, 3)) (ht : (pc : Int) + off = (tgt : Int)) (hx : inR x) (kt : ¬ x = 0 → OK Γ p l e R s m args below meth c n0 Q tgt L st n g h) (kf : x = 0 → OK Γ p l e R s m args below meth c n0 Q (pc + 3) L st n g h) : OK Γ p l e R s m args below meth c n0 Q pc L (vI x :: st) n g h := by
  intro H locs ls hH hS hL
  exact lv_if_ne a.1 a.2.1 d ht (fun q => kt (fun z => q (by rw [z]; rfl)) H locs ls hH hS hL) (fun q => kf ((i32_eq hx inR0).mp q) H locs ls hH hS hL)
theorem ok_icmp_lt (a : Ac Γ p s m args meth c own cc nL rt) {x y off : Int} (tgt : Nat) (d : decode cc pc = .ok (.if_icmp .lt off, 3)) (ht : (pc : Int) + off = (tgt : Int)) (hx : inR x) (hy : inR y) (kt : x < y → OK Γ p l e R s m args below meth c n0 Q tgt L st n g h) (kf : ¬ x < y → OK Γ p l e R s m args below meth c n0 Q (pc + 3) L st n g h) : OK Γ p l e R s m args below meth c n0 Q pc L (vI y :: vI x :: st) n g h := by
  intro H locs ls hH hS hL
  exact lv_icmp_lt a.1 a.2.1 d ht (fun q => kt ((i32_lt hx hy).mp q) H locs ls hH hS hL) (fun q => kf (fun z => q ((i32_lt hx hy).mpr z)) H locs ls hH hS hL)
theorem ok_if_lt (a : Ac Γ p s m args meth c own cc nL rt) {x off : Int} (tgt : Nat) (d : decode cc pc = .ok (.ifCond .lt off, 3)) (ht : (pc : Int) + off = (tgt : Int)) (hx : inR x) (kt : x < 0 → OK Γ p l e R s m args below meth c n0 Q tgt L st n g h) (kf : ¬ x < 0 → OK Γ p l e R s m args below meth c n0 Q (pc + 3) L st n g h) : OK Γ p l e R s m args below meth c n0 Q pc L (vI x :: st) n g h := by
  intro H locs ls hH hS hL
  exact lv_if_lt a.1 a.2.1 d ht (fun q => kt ((i32_lt hx inR0).mp q) H locs ls hH hS hL) (fun q => kf (fun z => q ((i32_lt hx inR0).mpr z)) H locs ls hH hS hL)
theorem ok_icmp_ge (a : Ac Γ p s m args meth c own cc nL rt) {x y off : Int} (tgt : Nat) (d : decode cc pc = .ok (.if_icmp .ge off, 3)) (ht : (pc : Int) + off = (tgt : Int)) (hx : inR x) (hy : inR y) (kt : y ≤ x → OK Γ p l e R s m args below meth c n0 Q tgt L st n g h) (kf : ¬ y ≤ x → OK Γ p l e R s m args below meth c n0 Q (pc + 3) L st n g h) : OK Γ p l e R s m args below meth c n0 Q pc L (vI y :: vI x :: st) n g h := by
  intro H locs ls hH hS hL
  exact lv_icmp_ge a.1 a.2.1 d ht (fun q => kt ((i32_le hy hx).mp q) H locs ls hH hS hL) (fun q => kf (fun z => q ((i32_le hy hx).mpr z)) H locs ls hH hS hL)
theorem ok_if_ge (a : Ac Γ p s m args meth c own cc nL rt) {x off : Int} (tgt : Nat) (d : decode cc pc = .ok (.ifCond .ge off, 3)) (ht : (pc : Int) + off = (tgt : Int)) (hx : inR x) (kt : 0 ≤ x → OK Γ p l e R s m args below meth c n0 Q tgt L st n g h) (kf : ¬ 0 ≤ x → OK Γ p l e R s m args below meth c n0 Q (pc + 3) L st n g h) : OK Γ p l e R s m args below meth c n0 Q pc L (vI x :: st) n g h := by
  intro H locs ls hH hS hL
  exact lv_if_ge a.1 a.2.1 d ht (fun q => kt ((i32_le inR0 hx).mp q) H locs ls hH hS hL) (fun q => kf (fun z => q ((i32_le inR0 hx).mpr z)) H locs ls hH hS hL)
theorem ok_icmp_gt (a : Ac Γ p s m args meth c own cc nL rt) {x y off : Int} (tgt : Nat) (d : decode cc pc = .ok (.if_icmp .gt off, 3)) (ht : (pc : Int) + off = (tgt : Int)) (hx : inR x) (hy : inR y) (kt : y < x → OK Γ p l e R s m args below meth c n0 Q tgt L st n g h) (kf : ¬ y < x → OK Γ p l e R s m args below meth c n0 Q (pc + 3) L st n g h) : OK Γ p l e R s m args below meth c n0 Q pc L (vI y :: vI x :: st) n g h := by
  intro H locs ls hH hS hL
  exact lv_icmp_gt a.1 a.2.1 d ht (fun q => kt ((i32_lt hy hx).mp q) H locs ls hH hS hL) (fun q => kf (fun z => q ((i32_lt hy hx).mpr z)) H locs ls hH hS hL)
theorem ok_if_gt (a : Ac Γ p s m args meth c own cc nL rt) {x off : Int} (tgt : Nat) (d : decode cc pc = .ok (.ifCond .gt off, 3)) (ht : (pc : Int) + off = (tgt : Int)) (hx : inR x) (kt : 0 < x → OK Γ p l e R s m args below meth c n0 Q tgt L st n g h) (kf : ¬ 0 < x → OK Γ p l e R s m args below meth c n0 Q (pc + 3) L st n g h) : OK Γ p l e R s m args below meth c n0 Q pc L (vI x :: st) n g h := by
  intro H locs ls hH hS hL
  exact lv_if_gt a.1 a.2.1 d ht (fun q => kt ((i32_lt inR0 hx).mp q) H locs ls hH hS hL) (fun q => kf (fun z => q ((i32_lt inR0 hx).mpr z)) H locs ls hH hS hL)
theorem ok_icmp_le (a : Ac Γ p s m args meth c own cc nL rt) {x y off : Int} (tgt : Nat) (d : decode cc pc = .ok (.if_icmp .le off, 3)) (ht : (pc : Int) + off = (tgt : Int)) (hx : inR x) (hy : inR y) (kt : x ≤ y → OK Γ p l e R s m args below meth c n0 Q tgt L st n g h) (kf : ¬ x ≤ y → OK Γ p l e R s m args below meth c n0 Q (pc + 3) L st n g h) : OK Γ p l e R s m args below meth c n0 Q pc L (vI y :: vI x :: st) n g h := by
  intro H locs ls hH hS hL
  exact lv_icmp_le a.1 a.2.1 d ht (fun q => kt ((i32_le hx hy).mp q) H locs ls hH hS hL) (fun q => kf (fun z => q ((i32_le hx hy).mpr z)) H locs ls hH hS hL)
theorem ok_if_le (a : Ac Γ p s m args meth c own cc nL rt) {x off : Int} (tgt : Nat) (d : decode cc pc = .ok (.ifCond .le off, 3)) (ht : (pc : Int) + off = (tgt : Int)) (hx : inR x) (kt : x ≤ 0 → OK Γ p l e R s m args below meth c n0 Q tgt L st n g h) (kf : ¬ x ≤ 0 → OK Γ p l e R s m args below meth c n0 Q (pc + 3) L st n g h) : OK Γ p l e R s m args below meth c n0 Q pc L (vI x :: st) n g h := by
  intro H locs ls hH hS hL
  exact lv_if_le a.1 a.2.1 d ht (fun q => kt ((i32_le hx inR0).mp q) H locs ls hH hS hL) (fun q => kf (fun z => q ((i32_le hx inR0).mpr z)) H locs ls hH hS hL)
theorem ok_tabIn (a : Ac Γ p s m args meth c own cc nL rt) {x : Int} {df lo hi off : Int} {offs : Array Int} {len : Nat} (tgt : Nat) (d : decode cc pc = .ok (.tableswitch df lo hi offs, len)) (hx : inR x) (h1 : lo ≤ x) (h2 : x ≤ hi) (ho : offs[(x - lo).toNat]? = some off) (ht : (pc : Int) + off = (tgt : Int)) (kk : OK Γ p l e R s m args below meth c n0 Q tgt L st n g h) : OK Γ p l e R s m args below meth c n0 Q pc L (vI x :: st) n g h := by
  intro H locs ls hH hS hL
  refine lv_tableIn a.1 a.2.1 d ?_ ?_ ?_ ht (kk H locs ls hH hS hL)
  · rw [i32T hx]; omega
  · rw [i32T hx]; omega
  · rw [i32T hx]; exact ho
theorem ok_tabOut (a : Ac Γ p s m args meth c own cc nL rt) {x : Int} {df lo hi : Int} {offs : Array Int} {len : Nat} (tgt : Nat) (d : decode cc pc = .ok (.tableswitch df lo hi offs, len)) (hx : inR x) (h1 : x < lo ∨ hi < x) (ht : (pc : Int) + df = (tgt : Int)) (kk : OK Γ p l e R s m args below meth c n0 Q tgt L st n g h) : OK Γ p l e R s m args below meth c n0 Q pc L (vI x :: st) n g h := by
  intro H locs ls hH hS hL
  refine lv_tableOut a.1 a.2.1 d ?_ ht (kk H locs ls hH hS hL)
  rw [i32T hx]; exact h1
def cmpL (x y : Int) : Int := if x < y then -1 else if x = y then 0 else 1
end ROWS
