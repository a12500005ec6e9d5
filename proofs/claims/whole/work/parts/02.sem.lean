-- ABSTRACT STATE: values, heap (cell, place), references, and what the machine's heap must hold for it
abbrev aV : Type := Int ⊕ (Int ⊕ Option Nat)
abbrev vI (x : Int) : aV := Sum.inl x
abbrev vL (x : Int) : aV := Sum.inr (Sum.inl x)
abbrev vR (k : Nat) : aV := Sum.inr (Sum.inr (some k))
abbrev aH : Type := Nat → Int → Int
abbrev aG : Type := Nat → Int → Option Nat
abbrev Gm : Type := va_G × (Nat → ClassId) × Nat × Nat × Nat
def ad (Γ : Gm) (k : Nat) : Nat := if k = 1000 then Γ.2.2.2.1 else if k = 1001 then Γ.2.2.2.2 else Γ.2.2.1 + k
def AA (Γ : Gm) : Nat → Prop := fun q => Γ.2.2.1 ≤ q
def enc (Γ : Gm) (v : aV) : Value := match v with
  | .inl x => .int (Int32.ofInt x)
  | .inr (.inl x) => .long (Int64.ofInt x)
  | .inr (.inr r) => va_rf (r.map (ad Γ))
/-- the cells in the order in which they are made: (class 0 .. 9, 0) or (10 int, 11 char, 12 short, 13 boolean, 14 Moment; length) -/
def kdl : List (Nat × Nat) := [(8,0), (6,0), (11,150), (7,0), (10,4), (10,16), (10,16), (10,5), (7,0), (10,4), (10,16), (10,16), (10,5), (4,0), (10,16), (2,0), (14,10), (4,0), (10,16), (4,0), (10,16), (4,0), (10,16), (4,0), (10,16), (4,0), (10,16), (4,0), (10,16), (4,0), (10,16), (4,0), (10,16), (4,0), (10,16), (4,0), (10,16), (14,2), (4,0), (10,16), (4,0), (10,16), (13,2), (5,0), (12,4096), (10,4), (0,0), (10,32), (10,301), (3,0), (10,721), (10,721), (1,0), (10,6), (10,6), (10,6), (10,6), (10,6), (10,721), (9,0), (10,150), (10,4), (10,8), (10,16), (10,32), (10,10), (10,23), (10,46), (13,2), (10,230), (10,6), (10,6), (10,6), (10,6), (10,6), (10,75), (10,4096), (10,4096), (10,1442), (13,301)]
def kd (k : Nat) : Nat × Nat := kdl.getD k (10, 0)
def nf (ci : Nat) : Nat := ([2, 9, 3, 6, 3, 4, 4, 6, 12, 34] : List Nat).getD ci 0
def tyOf (ci : Nat) : Nat → FieldType := match ci with
  | 0 => tyX0
  | 1 => tyX1
  | 2 => tyX2
  | 3 => tyX3
  | 4 => tyX4
  | 5 => tyX5
  | 6 => tyX6
  | 7 => tyX7
  | 8 => tyX8
  | _ => tyX9
def fval (Γ : Gm) (ty : FieldType) (x : Int) (r : Option Nat) : Value := match ty with
  | .int => .int (Int32.ofInt x)
  | .boolean => .int (Int32.ofInt x)
  | .long => .long (Int64.ofInt x)
  | _ => va_rf (r.map (ad Γ))
def cw (Γ : Gm) (g : aG) (h : aH) (k : Nat) : va_E :=
  if (kd k).1 < 10 then .inr ((kd k).1, (List.range (nf (kd k).1)).map (fun j => fval Γ (tyOf (kd k).1 j) (h k (j : Int)) (g k (j : Int))))
  else if (kd k).1 < 14 then .inl (Γ.2.1 ((kd k).1 - 10), (kd k).2, .inl (fun j => Int32.ofInt (h k (j : Int))))
  else .inl (Γ.2.1 4, (kd k).2, .inr (.inr (.inr (.inr (fun j => (g k (j : Int)).map (ad Γ))))))
def aw (Γ : Gm) (n : Nat) (g : aG) (h : aH) : va_W := (List.range n).map (fun k => (Γ.2.2.1 + k, cw Γ g h k))
def tysG (Γ : Gm) : List (ClassId × FieldType) := [(Γ.2.1 0, .int), (Γ.2.1 1, .char), (Γ.2.1 2, .short), (Γ.2.1 3, .boolean), (Γ.2.1 4, .object RX4)]
def HR (Γ : Gm) (n : Nat) (g : aG) (h : aH) (H : Heap) : Prop := n ≤ 1000 ∧ va_P Γ.1 vwCl (aw Γ n g h) H
def sl (n : Nat) : Nat := ((List.range n).map (fun k => if (kd k).1 < 10 then nf (kd k).1 else (kd k).2)).sum
def up (h : aH) (k : Nat) (i : Int) (x : Int) : aH := fun k' i' => if k' = k ∧ i' = i then x else h k' i'
def upg (g : aG) (k : Nat) (i : Int) (x : Option Nat) : aG := fun k' i' => if k' = k ∧ i' = i then x else g k' i'
def inR (x : Int) : Prop := -2147483648 ≤ x ∧ x < 2147483648
def inL (x : Int) : Prop := -9223372036854775808 ≤ x ∧ x < 9223372036854775808
-- THE WORDS
def gtb : List Cond := lw_tbl.filter goodWord
theorem gtb_good : ∀ w ∈ gtb, (w.onTables && w.keeps) = true ∨ ∃ ty, w = .arrayClass ty := fun _ h => good_of_word (List.mem_filter.mp h).2
def isNest (w : Cond) : Bool := match w with
  | .fieldLinkNest _ _ _ _ _ _ => true
  | .methodLinkNest _ _ _ _ => true
  | _ => false
theorem isNest_warm {w : Cond} (hw : isNest w = true) {s U : State} (hW : s.WarmedH U.vm) (h : va_Nw w s) : va_Nw w U := by
  cases w <;> first | exact va_Nw.warmF hW h | exact va_Nw.warmM hW h | cases hw
theorem isNest_tab {w : Cond} (hw : isNest w = true) : w.onTables = true := by
  cases w <;> first | rfl | cases hw
def cC (ci : Nat) : String := (vwCl.getD ci (RX9, TX9, 34)).1
def cT (ci : Nat) : u_T := (vwCl.getD ci (RX9, TX9, 34)).2.1
def Cf (ci : Nat) : Prop := vwCl[ci]? = some (cC ci, cT ci, nf ci) ∧ (∀ w ∈ u_ws (cC ci) (cT ci) (nf ci), w ∈ gtb) ∧ (∀ k, k < nf ci → parseFieldDescriptor (cT ci k).2.2.1 = some (tyOf ci k)) ∧ (∀ a, a < nf ci → ∀ b, b < nf ci → a ≠ b → (cT ci a).2.1 ≠ (cT ci b).2.1) ∧ ∀ k, k < nf ci → (cT ci k).1 = cC ci
set_option maxRecDepth 100000 in
theorem cf0 : Cf 0 := ⟨rfl, by decide +kernel, tyX0_ok, nmX0, by decide +kernel⟩
set_option maxRecDepth 100000 in
theorem cf1 : Cf 1 := ⟨rfl, by decide +kernel, tyX1_ok, nmX1, by decide +kernel⟩
set_option maxRecDepth 100000 in
theorem cf2 : Cf 2 := ⟨rfl, by decide +kernel, tyX2_ok, nmX2, by decide +kernel⟩
set_option maxRecDepth 100000 in
theorem cf3 : Cf 3 := ⟨rfl, by decide +kernel, tyX3_ok, nmX3, by decide +kernel⟩
set_option maxRecDepth 100000 in
theorem cf4 : Cf 4 := ⟨rfl, by decide +kernel, tyX4_ok, nmX4, by decide +kernel⟩
set_option maxRecDepth 100000 in
theorem cf5 : Cf 5 := ⟨rfl, by decide +kernel, tyX5_ok, nmX5, by decide +kernel⟩
set_option maxRecDepth 100000 in
theorem cf6 : Cf 6 := ⟨rfl, by decide +kernel, tyX6_ok, nmX6, by decide +kernel⟩
set_option maxRecDepth 100000 in
theorem cf7 : Cf 7 := ⟨rfl, by decide +kernel, tyX7_ok, nmX7, by decide +kernel⟩
set_option maxRecDepth 100000 in
theorem cf8 : Cf 8 := ⟨rfl, by decide +kernel, tyX8_ok, nmX8, by decide +kernel⟩
set_option maxRecDepth 100000 in
theorem cf9 : Cf 9 := ⟨rfl, by decide +kernel, tyX9_ok, nmX9, by decide +kernel⟩
theorem cf_all {ci : Nat} (h : ci < 10) : Cf ci := by
  rcases (show ci = 0 ∨ ci = 1 ∨ ci = 2 ∨ ci = 3 ∨ ci = 4 ∨ ci = 5 ∨ ci = 6 ∨ ci = 7 ∨ ci = 8 ∨ ci = 9 by omega) with rfl | rfl | rfl | rfl | rfl | rfl | rfl | rfl | rfl | rfl
  · exact cf0
  · exact cf1
  · exact cf2
  · exact cf3
  · exact cf4
  · exact cf5
  · exact cf6
  · exact cf7
  · exact cf8
  · exact cf9
def Lf (own : String) (idx ci j : Nat) : Prop := ci < 10 ∧ j < nf ci ∧ ((Cond.fieldLink own idx (cC ci) (cT ci j).2.1 (cT ci j).2.2.1 ∈ gtb) ∨ ∃ host, Cond.fieldLinkNest own idx (cC ci) (cT ci j).2.1 (cT ci j).2.2.1 host ∈ lw_tbl)
def fwv (j : Nat) : Int := ([1, 4, 9, 16] : List Int).getD j 0
def KK (Γ : Gm) (U : State) : Prop := va_K Γ.1 vwCl (tysG Γ) U ∧ (∀ w ∈ lw_tbl, isNest w = true → va_Nw w U) ∧ va_Z RX8 "FIRST_WEIGHTS" "[I" (.ref Γ.2.2.2.2) (AA Γ) U U.heap ∧ va_T .int Γ.2.2.2.2 4 (fun j => .int (Int32.ofInt (fwv j))) (AA Γ) U U.heap ∧ Γ.2.2.2.1 < Γ.2.2.1 ∧ Γ.2.2.2.2 < Γ.2.2.1 ∧ Γ.2.2.1 ≤ U.heap.size
/-- from a method's start to a state that it comes to -/
theorem KK.go {Γ : Gm} {s U : State} {H : Heap} {locs : List Loc} (h : KK Γ s) (hS : va_S (AA Γ) s.heap H locs) (hU : U.heap = H) (hW : s.WarmedH U.vm) : KK Γ U := by
  obtain ⟨h1, h2, h3, h4, h5, h6, h7⟩ := h
  refine ⟨va_K.moved hW.alike h1, fun w hw hn => isNest_warm hn hW (h2 w hw hn), ?_, ?_, h5, h6, ?_⟩
  · rw [hU]; exact va_Z.kept (va_Z.moved hW.alike h3) (fun a ha hA => hS.2.1 a ha hA)
  · rw [hU]; exact va_T.kept (va_T.moved hW.alike h4) (fun a ha hA => hS.2.1 a ha hA)
  · rw [hU]; exact Nat.le_trans h7 hS.1
theorem KK.blind {Γ : Gm} {U : State} {g : JFrame} {mk : MethodId} {a : Array Value} (h : KK Γ U) : KK Γ (U.calling g mk a) := by
  obtain ⟨h1, h2, h3, h4, h5, h6, h7⟩ := h
  exact ⟨va_K.moved (u := U) (U := U.calling g mk a) (Vm.Alike.refl U.vm) h1, fun w hw hn => va_Nw.same (u := U) (U := U.calling g mk a) (isNest_tab hn) rfl (h2 w hw hn), va_Z.moved (u := U) (U := U.calling g mk a) (Vm.Alike.refl U.vm) h3, va_T.moved (u := U) (U := U.calling g mk a) (Vm.Alike.refl U.vm) h4, h5, h6, h7⟩
-- AN ACTIVATION
def Ac (Γ : Gm) (p : Program) (s : State) (m : MethodId) (args : Array Value) (meth : Method) (c : Code) (own : String) (cc : ByteArray) (nL : Nat) (rt : Option FieldType) : Prop :=
  p.tables.exec = Jvm.exec ∧ c.code = cc ∧ c.maxLocals = nL ∧ meth.sig.returnType = rt ∧ meth.locks = false ∧ s.vm.findClass own = some m.cls ∧ (∀ w ∈ gtb, w.before args s = true) ∧ KK Γ s
def LR (Γ : Gm) (nL : Nat) (L : List (Option aV)) (ls : Array Slot) : Prop := ls.size = nL ∧ lv_wf ls ∧ L.length = nL ∧ ∀ (i : Nat) (v : aV), L[i]? = some (some v) → ls[i]? = some (.val (enc Γ v))
def lvOf (Γ : Gm) (L : List (Option aV)) : List (Nat × Value) := (List.range L.length).filterMap (fun j => match L[j]? with
  | some (some w) => some (j, enc Γ w)
  | _ => none)
theorem lvOf_mem {Γ : Gm} {L : List (Option aV)} {j : Nat} {w : aV} (h : L[j]? = some (some w)) : (j, enc Γ w) ∈ lvOf Γ L := by
  have hj : j < L.length := (List.getElem?_eq_some_iff.mp h).1
  exact List.mem_filterMap.mpr ⟨j, List.mem_range.mpr hj, by rw [h]⟩
theorem lvOf_of {Γ : Gm} {L : List (Option aV)} {q : Nat × Value} (h : q ∈ lvOf Γ L) : ∃ w, L[q.1]? = some (some w) ∧ q.2 = enc Γ w := by
  obtain ⟨j, -, hj⟩ := List.mem_filterMap.mp h
  split at hj
  · rename_i w hw
    cases hj
    exact ⟨w, hw, rfl⟩
  · cases hj
theorem LR.has {Γ : Gm} {nL : Nat} {L : List (Option aV)} {ls : Array Slot} (h : LR Γ nL L ls) : lv_has ls nL (lvOf Γ L) := by
  refine ⟨h.1, h.2.1, fun q hq => ?_⟩
  obtain ⟨w, hw, e⟩ := lvOf_of hq
  rw [e]
  exact h.2.2.2 _ _ hw
def nlg (L : List (Option aV)) (i : Nat) : Bool := match i with
  | 0 => true
  | j + 1 => match L[j]? with
    | some (some (.inr (.inl _))) => false
    | _ => true
theorem enc_cat1 {Γ : Gm} {v : aV} (h : (enc Γ v).category = 2) : ∃ x, v = vL x := by
  rcases v with x | x | r
  · simp [enc, Value.category] at h
  · exact ⟨x, rfl⟩
  · cases r <;> simp [enc, va_rf, Value.category] at h
theorem nlg_spec {Γ : Gm} {L : List (Option aV)} {i j : Nat} {w : aV} (hn : nlg L i = true) (hj : L[j]? = some (some w)) (hi : j + 1 = i) : ¬ (enc Γ w).category = 2 := by
  intro h
  obtain ⟨x, rfl⟩ := enc_cat1 h
  subst hi
  simp [nlg, hj] at hn
theorem LR.st1 {Γ : Gm} {nL : Nat} {L : List (Option aV)} {ls ls' : Array Slot} {i : Nat} {v : aV} (h : LR Γ nL L ls) (hn : nlg L i = true)
    (h' : lv_has ls' nL ((i, enc Γ v) :: (lvOf Γ L).filter (fun q => !(q.1 == i) && !(q.1 + 1 == i && q.2.category == 2)))) : LR Γ nL (L.set i (some v)) ls' := by
  refine ⟨h'.1, h'.2.1, by rw [List.length_set]; exact h.2.2.1, fun j w hj => ?_⟩
  by_cases hij : i = j
  · subst hij
    rw [List.getElem?_set_self' ] at hj
    cases hl : L[i]? with
    | none => rw [hl] at hj; cases hj
    | some o =>
      rw [hl] at hj
      have hw : v = w := by simpa using hj
      subst hw
      exact h'.2.2 (i, enc Γ v) List.mem_cons_self
  · rw [List.getElem?_set_ne hij] at hj
    refine h'.2.2 (j, enc Γ w) (List.mem_cons_of_mem _ (List.mem_filter.mpr ⟨lvOf_mem hj, ?_⟩))
    have h1 : (j == i) = false := by simp; exact fun q => hij q.symm
    by_cases h2 : j + 1 = i
    · have := nlg_spec (Γ := Γ) hn hj h2
      simp [h1, h2, this]
    · simp [h1, h2]
theorem LR.st2 {Γ : Gm} {nL : Nat} {L : List (Option aV)} {ls ls' : Array Slot} {i : Nat} {v : aV} (h : LR Γ nL L ls) (hn : nlg L i = true)
    (h' : lv_has ls' nL ((i, enc Γ v) :: (lvOf Γ L).filter (fun q => !(q.1 == i) && (!(q.1 == i + 1) && !(q.1 + 1 == i && q.2.category == 2))))) : LR Γ nL ((L.set i (some v)).set (i + 1) none) ls' := by
  refine ⟨h'.1, h'.2.1, by rw [List.length_set, List.length_set]; exact h.2.2.1, fun j w hj => ?_⟩
  by_cases hj1 : i + 1 = j
  · subst hj1
    rw [List.getElem?_set_self'] at hj
    cases hl : (L.set i (some v))[i + 1]? with
    | none => rw [hl] at hj; cases hj
    | some o => rw [hl] at hj; cases hj
  rw [List.getElem?_set_ne hj1] at hj
  by_cases hij : i = j
  · subst hij
    rw [List.getElem?_set_self' ] at hj
    cases hl : L[i]? with
    | none => rw [hl] at hj; cases hj
    | some o =>
      rw [hl] at hj
      have hw : v = w := by simpa using hj
      subst hw
      exact h'.2.2 (i, enc Γ v) List.mem_cons_self
  · rw [List.getElem?_set_ne hij] at hj
    refine h'.2.2 (j, enc Γ w) (List.mem_cons_of_mem _ (List.mem_filter.mpr ⟨lvOf_mem hj, ?_⟩))
    have h1 : (j == i) = false := by simp; exact fun q => hij q.symm
    have h3 : (j == i + 1) = false := by simp; exact fun q => hj1 q.symm
    by_cases h2 : j + 1 = i
    · have := nlg_spec (Γ := Γ) hn hj h2
      simp [h1, h2, h3, this]
    · simp [h1, h2, h3]
theorem LR.drop {Γ : Gm} {nL : Nat} {L : List (Option aV)} {ls : Array Slot} (i : Nat) (h : LR Γ nL L ls) : LR Γ nL (L.set i none) ls := by
  refine ⟨h.1, h.2.1, by rw [List.length_set]; exact h.2.2.1, fun j w hj => h.2.2.2 j w ?_⟩
  by_cases hij : i = j
  · subst hij
    rw [List.getElem?_set_self'] at hj
    cases hl : L[i]? with
    | none => rw [hl] at hj; cases hj
    | some o => rw [hl] at hj; cases hj
  · rw [List.getElem?_set_ne hij] at hj
    exact hj
/-- the machine at a place of a method: whatever heap and locals stand for the abstract ones, it comes to Q -/
def OK (Γ : Gm) (p : Program) (l : Launch) (e : Env) (R : Room) (s : State) (m : MethodId) (args : Array Value) (below : List Frame) (meth : Method) (c : Code) (n0 : Nat) (Q : State → Prop) (pc : Nat) (L : List (Option aV)) (st : List aV) (n : Nat) (g : aG) (h : aH) : Prop :=
  ∀ (H : Heap) (locs : List Loc) (ls : Array Slot), HR Γ n g h H → va_S (AA Γ) s.heap H locs → LR Γ c.maxLocals L ls → W p l e R s m args below meth c H locs (n - n0) (sl n - sl n0) Q (F0 m pc ls (st.map (enc Γ)))
