def R_law : String := "UnsaidScalesLaw"
def lw_P (b : Addr) (xs : List Int32) (args : Array Value) (s : State) : Prop := args = #[.ref b] ∧ s.IntsAt b xs ∧ xs.length ≤ 384 ∧ (Jvm.Cond.and given_1 narrow_1).before args s = true
def lw_Q (_ : Array Value) (s : State) (o : Outcome) (t : State) : Prop := o = .returned (some (.int 1)) ∧ Framed s o t [] 600000 7302250
def lw_Z (below : List Frame) (a : Array Value) (s : State) : State → Prop := fun t => ∃ o, t.status = .running ∧ Ended t below o ∧ lw_Q a s o t
/-- the law's own end, with 1 on the stack, nothing written that was there before, its room as the claim has it -/
theorem lw_ret {p : Program} {l : Launch} {e : Env} {s : State} {m : MethodId} {below : List Frame} {meth : Method} {c : Code} {b : Nat} (hx : p.tables.exec = Jvm.exec) (hb : c.code = code) (hr : meth.sig.returnType = ret) (hlocks : meth.locks = false) {pc : Nat} {H : Heap} {ls : Array Slot} (hdg : decode code pc = .ok (.ireturn, 1)) : W p l e room_1 s m #[Value.ref b] below meth c H [] 600000 7302250 (lw_Z below #[Value.ref b] s) (F0 m pc ls [.int 1]) := by
  intro T hT X
  obtain ⟨fs, hret, hrun, hended, hW, hframe⟩ := X.leave (v := some (.int 1)) (hlocks := hlocks) (fun h => by rw [hr] at h; cases h)
  have hmeth' : T.vm.method? m = some meth := X.method'
  refine ⟨T.setFrames fs, ?_, .returned (some (.int 1)), hrun, hended, rfl, ⟨_, rfl⟩, hW, hframe⟩
  jvm_step X.here [X.here.top, hx, hb, hdg, hmeth', hr, ret, narrow_b1]
  (try refine ⟨rfl, ?_⟩); (try refine ⟨rfl, ?_⟩)
  first | (intro acts; rw [hret _ acts rfl rfl rfl]) | rw [hret _ _ rfl rfl rfl]
  exact Steps.refl _
/-- what holds at the law's entry: the machine, the code, the tables' words (any of lw_tbl by 'hts w (by decide +kernel)'), the script of L ints xs at the cell b, what the Statement gives of the start (any of its parts by flat_of_before) -/
def lw_At (p : Program) (s : State) (m : MethodId) (meth : Method) (c : Code) (b L : Nat) (xs : Nat → Int32) : Prop :=
  p.tables.exec = Jvm.exec ∧ c.code = code ∧ meth.sig.returnType = ret ∧ c.maxLocals = 4 ∧ s.vm.findClass R_law = some m.cls ∧ (∀ w ∈ lw_tbl, w.before #[Value.ref b] s = true) ∧ va_X b L xs s s.heap ∧ b < s.heap.size ∧ meth.locks = false ∧ (Jvm.Cond.and given_1 narrow_1).before #[Value.ref b] s = true
section LAWROWS
variable {Γ : Gm} {p : Program} {l : Launch} {e : Env} {R : Room} {s : State} {m : MethodId} {args : Array Value} {below : List Frame} {meth : Method} {c : Code} {own : String} {cc : ByteArray} {nL : Nat} {rt : Option FieldType} {n0 : Nat} {Q : State → Prop} {pc : Nat} {L : List (Option aV)} {st : List aV} {n : Nat} {g : aG} {h : aH}
theorem ok_sld (a : Ac Γ p s m args meth c own cc nL rt) {LL : Nat} {xs : Nat → Int32} {sx : Int → Int} {i : Int} (d : decode cc pc = .ok (.iaload, 1)) (hLL : LL ≤ 384) (hX : va_X Γ.2.2.2.1 LL xs s s.heap) (hsz : s.heap.size = Γ.2.2.1 + 0) (hbl : Γ.2.2.2.1 < Γ.2.2.1) (hsx : sx = fun i => (xs i.toNat).toInt) (hi : 0 ≤ i ∧ i < LL) (kk : OK Γ p l e R s m args below meth c n0 Q (pc + 1) L (vI (sx i) :: st) n g h) : OK Γ p l e R s m args below meth c n0 Q pc L (vI i :: vR 1000 :: st) n g h := by
  intro H locs ls hH hS hL
  have k1 := kk H locs ls hH hS hL
  have hcl := i32_cl hi.1 (by omega : i < 2147483648)
  refine va_sld (A := AA Γ) (b := Γ.2.2.2.1) a.1 a.2.1 hX (by omega) (fun q : Γ.2.2.1 ≤ Γ.2.2.2.1 => by omega) hS (i32_in hi.1 hi.2 (by omega)) d ?_
  rw [hcl]
  have e : Int32.ofInt (sx i) = xs i.toNat := by rw [hsx]; exact Int32.ofInt_toInt _
  simp only [List.map_cons, enc, e] at k1
  exact k1
theorem ok_slen (a : Ac Γ p s m args meth c own cc nL rt) {LL : Nat} {xs : Nat → Int32} (d : decode cc pc = .ok (.arraylength, 1)) (hLL : LL ≤ 384) (hX : va_X Γ.2.2.2.1 LL xs s s.heap) (hsz : s.heap.size = Γ.2.2.1 + 0) (hbl : Γ.2.2.2.1 < Γ.2.2.1) (kk : OK Γ p l e R s m args below meth c n0 Q (pc + 1) L (vI (LL : Int) :: st) n g h) : OK Γ p l e R s m args below meth c n0 Q pc L (vR 1000 :: st) n g h := by
  intro H locs ls hH hS hL
  have k1 := kk H locs ls hH hS hL
  refine va_slen (A := AA Γ) (b := Γ.2.2.2.1) a.1 a.2.1 hX (by omega) (fun q : Γ.2.2.1 ≤ Γ.2.2.2.1 => by omega) hS d ?_
  have e : Int32.ofInt (LL : Int) = Int32.ofNat LL := by rw [ofInt_nI (by omega)]; rfl
  simp only [List.map_cons, enc, e] at k1
  exact k1
theorem lawcs80 : sl 80 - sl 0 ≤ 7302250 := by decide +kernel
theorem lawcs : 80 - 0 ≤ room_1.cells ∧ sl 80 - sl 0 ≤ room_1.slots := ⟨by decide, lawcs80⟩
theorem ok_lawret (a : Ac Γ p s m #[Value.ref Γ.2.2.2.1] meth c own cL_law nL (some .boolean)) (d : decode cL_law pc = .ok (.ireturn, 1)) (hsz : s.heap.size = Γ.2.2.1 + 0 := by assumption) : OK Γ p l e room_1 s m #[Value.ref Γ.2.2.2.1] below meth c 0 (lw_Z below #[Value.ref Γ.2.2.2.1] s) pc L [vI 1] 80 G78 h := by
  intro H locs ls hH hS hL
  refine va_forget (fun q hq => ?_) ?_
  · have := hS.2.2 q hq
    rw [hsz]
    exact this
  · refine W.widen (k := 600000) (n := 7302250) (by decide) lawcs80 ?_
    exact lw_ret a.1 a.2.1 a.2.2.2.1 a.2.2.2.2.1 d
theorem ok_GRI (a : Ac Γ p s m args meth c own cc nL rt) {y : MI} {na idx k ci : Nat} {Qw : Int → aH → Prop} {st0 : List aV} (as st : List aV) (M : Cl Γ l y (vR k :: as) n g h (RI g Qw)) (d : decode cc pc = .ok (.invokevirtual idx, 3)) (lk : LkV own idx y na) (hna : as.length = na) (hk : k < n) (hc : (kd k).1 = ci) (hci : ci < 10) (hC : cC ci = y.1.cls) (hR : y.2.2.2.2 + 1 ≤ R.frames ∧ 8 + (y.2.2.1 + 11) + 40 * y.2.2.2.2 ≤ R.locals) (hcs : n - n0 ≤ R.cells ∧ sl n - sl n0 ≤ R.slots) (hst : (st.map catA).sum ≤ 8) (e0 : as.reverse ++ vR k :: st = st0) (kk : ∀ r h1, Qw r h1 → OK Γ p l e R s m args below meth c n0 Q (pc + 3) L (vI r :: st) n g h1) : OK Γ p l e R s m args below meth c n0 Q pc L st0 n g h := by
  subst e0
  refine ok_gV a M d lk hna hk hc hci hC hR hcs hst (fun v g' h' q => ?_)
  obtain ⟨r, rfl, rfl, hq⟩ := q; exact kk r _ hq
theorem ok_GRL (a : Ac Γ p s m args meth c own cc nL rt) {y : MI} {na idx k ci : Nat} {Qw : Int → aH → Prop} {st0 : List aV} (as st : List aV) (M : Cl Γ l y (vR k :: as) n g h (RL' g Qw)) (d : decode cc pc = .ok (.invokevirtual idx, 3)) (lk : LkV own idx y na) (hna : as.length = na) (hk : k < n) (hc : (kd k).1 = ci) (hci : ci < 10) (hC : cC ci = y.1.cls) (hR : y.2.2.2.2 + 1 ≤ R.frames ∧ 8 + (y.2.2.1 + 11) + 40 * y.2.2.2.2 ≤ R.locals) (hcs : n - n0 ≤ R.cells ∧ sl n - sl n0 ≤ R.slots) (hst : (st.map catA).sum ≤ 8) (e0 : as.reverse ++ vR k :: st = st0) (kk : ∀ r h1, Qw r h1 → OK Γ p l e R s m args below meth c n0 Q (pc + 3) L (vL r :: st) n g h1) : OK Γ p l e R s m args below meth c n0 Q pc L st0 n g h := by
  subst e0
  refine ok_gV a M d lk hna hk hc hci hC hR hcs hst (fun v g' h' q => ?_)
  obtain ⟨r, rfl, rfl, hq⟩ := q; exact kk r _ hq
theorem ok_GPI (a : Ac Γ p s m args meth c own cc nL rt) {y : MI} {na idx k ci : Nat} {Qw : Int → Prop} {st0 : List aV} (as st : List aV) (M : Cl Γ l y (vR k :: as) n g h (PI g h Qw)) (d : decode cc pc = .ok (.invokevirtual idx, 3)) (lk : LkV own idx y na) (hna : as.length = na) (hk : k < n) (hc : (kd k).1 = ci) (hci : ci < 10) (hC : cC ci = y.1.cls) (hR : y.2.2.2.2 + 1 ≤ R.frames ∧ 8 + (y.2.2.1 + 11) + 40 * y.2.2.2.2 ≤ R.locals) (hcs : n - n0 ≤ R.cells ∧ sl n - sl n0 ≤ R.slots) (hst : (st.map catA).sum ≤ 8) (e0 : as.reverse ++ vR k :: st = st0) (kk : ∀ r, Qw r → OK Γ p l e R s m args below meth c n0 Q (pc + 3) L (vI r :: st) n g h) : OK Γ p l e R s m args below meth c n0 Q pc L st0 n g h := by
  subst e0
  refine ok_gV a M d lk hna hk hc hci hC hR hcs hst (fun v g' h' q => ?_)
  obtain ⟨r, rfl, rfl, rfl, hq⟩ := q; exact kk r hq
theorem ok_GPL (a : Ac Γ p s m args meth c own cc nL rt) {y : MI} {na idx k ci : Nat} {Qw : Int → Prop} {st0 : List aV} (as st : List aV) (M : Cl Γ l y (vR k :: as) n g h (PL g h Qw)) (d : decode cc pc = .ok (.invokevirtual idx, 3)) (lk : LkV own idx y na) (hna : as.length = na) (hk : k < n) (hc : (kd k).1 = ci) (hci : ci < 10) (hC : cC ci = y.1.cls) (hR : y.2.2.2.2 + 1 ≤ R.frames ∧ 8 + (y.2.2.1 + 11) + 40 * y.2.2.2.2 ≤ R.locals) (hcs : n - n0 ≤ R.cells ∧ sl n - sl n0 ≤ R.slots) (hst : (st.map catA).sum ≤ 8) (e0 : as.reverse ++ vR k :: st = st0) (kk : ∀ r, Qw r → OK Γ p l e R s m args below meth c n0 Q (pc + 3) L (vL r :: st) n g h) : OK Γ p l e R s m args below meth c n0 Q pc L st0 n g h := by
  subst e0
  refine ok_gV a M d lk hna hk hc hci hC hR hcs hst (fun v g' h' q => ?_)
  obtain ⟨r, rfl, rfl, rfl, hq⟩ := q; exact kk r hq
end LAWROWS
theorem tcG : TC G78 := TC_of_all (by decide +kernel)
theorem tmG : TM G78 := TM_of_all (by decide +kernel)

theorem lb_X8_type : LkB mX8_type 1 := ⟨(List.mem_filter.mpr ⟨List.mem_of_getElem? (i := 62) (by decide +kernel), by decide +kernel⟩), (List.mem_filter.mpr ⟨List.mem_of_getElem? (i := 380) (by decide +kernel), by decide +kernel⟩), by decide, by decide, by decide +kernel⟩
theorem lkRL_13 : LkV RL 13 mX8_type 1 := ⟨lb_X8_type, Or.inl (List.mem_filter.mpr ⟨List.mem_of_getElem? (i := 377) (by decide +kernel), by decide +kernel⟩), (List.mem_filter.mpr ⟨List.mem_of_getElem? (i := 378) (by decide +kernel), by decide +kernel⟩), (List.mem_filter.mpr ⟨List.mem_of_getElem? (i := 379) (by decide +kernel), by decide +kernel⟩)⟩
theorem lb_X9_type : LkB mX9_type 1 := ⟨(List.mem_filter.mpr ⟨List.mem_of_getElem? (i := 74) (by decide +kernel), by decide +kernel⟩), (List.mem_filter.mpr ⟨List.mem_of_getElem? (i := 950) (by decide +kernel), by decide +kernel⟩), by decide, by decide, by decide +kernel⟩
theorem lkRL_17 : LkV RL 17 mX9_type 1 := ⟨lb_X9_type, Or.inl (List.mem_filter.mpr ⟨List.mem_of_getElem? (i := 947) (by decide +kernel), by decide +kernel⟩), (List.mem_filter.mpr ⟨List.mem_of_getElem? (i := 948) (by decide +kernel), by decide +kernel⟩), (List.mem_filter.mpr ⟨List.mem_of_getElem? (i := 949) (by decide +kernel), by decide +kernel⟩)⟩
theorem lb_X8_clear : LkB mX8_clear 0 := ⟨(List.mem_filter.mpr ⟨List.mem_of_getElem? (i := 62) (by decide +kernel), by decide +kernel⟩), (List.mem_filter.mpr ⟨List.mem_of_getElem? (i := 389) (by decide +kernel), by decide +kernel⟩), by decide, by decide, by decide +kernel⟩
theorem lkRL_18 : LkV RL 18 mX8_clear 0 := ⟨lb_X8_clear, Or.inl (List.mem_filter.mpr ⟨List.mem_of_getElem? (i := 386) (by decide +kernel), by decide +kernel⟩), (List.mem_filter.mpr ⟨List.mem_of_getElem? (i := 387) (by decide +kernel), by decide +kernel⟩), (List.mem_filter.mpr ⟨List.mem_of_getElem? (i := 388) (by decide +kernel), by decide +kernel⟩)⟩
theorem lb_X9_clear : LkB mX9_clear 0 := ⟨(List.mem_filter.mpr ⟨List.mem_of_getElem? (i := 74) (by decide +kernel), by decide +kernel⟩), (List.mem_filter.mpr ⟨List.mem_of_getElem? (i := 957) (by decide +kernel), by decide +kernel⟩), by decide, by decide, by decide +kernel⟩
theorem lkRL_22 : LkV RL 22 mX9_clear 0 := ⟨lb_X9_clear, Or.inl (List.mem_filter.mpr ⟨List.mem_of_getElem? (i := 954) (by decide +kernel), by decide +kernel⟩), (List.mem_filter.mpr ⟨List.mem_of_getElem? (i := 955) (by decide +kernel), by decide +kernel⟩), (List.mem_filter.mpr ⟨List.mem_of_getElem? (i := 956) (by decide +kernel), by decide +kernel⟩)⟩
theorem lb_X8_shop : LkB mX8_shop 0 := ⟨(List.mem_filter.mpr ⟨List.mem_of_getElem? (i := 62) (by decide +kernel), by decide +kernel⟩), (List.mem_filter.mpr ⟨List.mem_of_getElem? (i := 393) (by decide +kernel), by decide +kernel⟩), by decide, by decide, by decide +kernel⟩
theorem lkRL_23 : LkV RL 23 mX8_shop 0 := ⟨lb_X8_shop, Or.inl (List.mem_filter.mpr ⟨List.mem_of_getElem? (i := 390) (by decide +kernel), by decide +kernel⟩), (List.mem_filter.mpr ⟨List.mem_of_getElem? (i := 391) (by decide +kernel), by decide +kernel⟩), (List.mem_filter.mpr ⟨List.mem_of_getElem? (i := 392) (by decide +kernel), by decide +kernel⟩)⟩
theorem lb_X9_shop : LkB mX9_shop 0 := ⟨(List.mem_filter.mpr ⟨List.mem_of_getElem? (i := 74) (by decide +kernel), by decide +kernel⟩), (List.mem_filter.mpr ⟨List.mem_of_getElem? (i := 961) (by decide +kernel), by decide +kernel⟩), by decide, by decide, by decide +kernel⟩
theorem lkRL_26 : LkV RL 26 mX9_shop 0 := ⟨lb_X9_shop, Or.inl (List.mem_filter.mpr ⟨List.mem_of_getElem? (i := 958) (by decide +kernel), by decide +kernel⟩), (List.mem_filter.mpr ⟨List.mem_of_getElem? (i := 959) (by decide +kernel), by decide +kernel⟩), (List.mem_filter.mpr ⟨List.mem_of_getElem? (i := 960) (by decide +kernel), by decide +kernel⟩)⟩
theorem lb_X8_holds : LkB mX8_holds 2 := ⟨(List.mem_filter.mpr ⟨List.mem_of_getElem? (i := 62) (by decide +kernel), by decide +kernel⟩), (List.mem_filter.mpr ⟨List.mem_of_getElem? (i := 447) (by decide +kernel), by decide +kernel⟩), by decide, by decide, by decide +kernel⟩
theorem lkRL_27 : LkV RL 27 mX8_holds 2 := ⟨lb_X8_holds, Or.inl (List.mem_filter.mpr ⟨List.mem_of_getElem? (i := 444) (by decide +kernel), by decide +kernel⟩), (List.mem_filter.mpr ⟨List.mem_of_getElem? (i := 445) (by decide +kernel), by decide +kernel⟩), (List.mem_filter.mpr ⟨List.mem_of_getElem? (i := 446) (by decide +kernel), by decide +kernel⟩)⟩
theorem lb_X9_holds : LkB mX9_holds 2 := ⟨(List.mem_filter.mpr ⟨List.mem_of_getElem? (i := 74) (by decide +kernel), by decide +kernel⟩), (List.mem_filter.mpr ⟨List.mem_of_getElem? (i := 993) (by decide +kernel), by decide +kernel⟩), by decide, by decide, by decide +kernel⟩
theorem lkRL_31 : LkV RL 31 mX9_holds 2 := ⟨lb_X9_holds, Or.inl (List.mem_filter.mpr ⟨List.mem_of_getElem? (i := 990) (by decide +kernel), by decide +kernel⟩), (List.mem_filter.mpr ⟨List.mem_of_getElem? (i := 991) (by decide +kernel), by decide +kernel⟩), (List.mem_filter.mpr ⟨List.mem_of_getElem? (i := 992) (by decide +kernel), by decide +kernel⟩)⟩
theorem lb_X8_grows : LkB mX8_grows 2 := ⟨(List.mem_filter.mpr ⟨List.mem_of_getElem? (i := 62) (by decide +kernel), by decide +kernel⟩), (List.mem_filter.mpr ⟨List.mem_of_getElem? (i := 458) (by decide +kernel), by decide +kernel⟩), by decide, by decide, by decide +kernel⟩
theorem lkRL_32 : LkV RL 32 mX8_grows 2 := ⟨lb_X8_grows, Or.inl (List.mem_filter.mpr ⟨List.mem_of_getElem? (i := 455) (by decide +kernel), by decide +kernel⟩), (List.mem_filter.mpr ⟨List.mem_of_getElem? (i := 456) (by decide +kernel), by decide +kernel⟩), (List.mem_filter.mpr ⟨List.mem_of_getElem? (i := 457) (by decide +kernel), by decide +kernel⟩)⟩
theorem lb_X9_grows : LkB mX9_grows 2 := ⟨(List.mem_filter.mpr ⟨List.mem_of_getElem? (i := 74) (by decide +kernel), by decide +kernel⟩), (List.mem_filter.mpr ⟨List.mem_of_getElem? (i := 1004) (by decide +kernel), by decide +kernel⟩), by decide, by decide, by decide +kernel⟩
theorem lkRL_35 : LkV RL 35 mX9_grows 2 := ⟨lb_X9_grows, Or.inl (List.mem_filter.mpr ⟨List.mem_of_getElem? (i := 1001) (by decide +kernel), by decide +kernel⟩), (List.mem_filter.mpr ⟨List.mem_of_getElem? (i := 1002) (by decide +kernel), by decide +kernel⟩), (List.mem_filter.mpr ⟨List.mem_of_getElem? (i := 1003) (by decide +kernel), by decide +kernel⟩)⟩
theorem lb_X8_weight : LkB mX8_weight 1 := ⟨(List.mem_filter.mpr ⟨List.mem_of_getElem? (i := 62) (by decide +kernel), by decide +kernel⟩), (List.mem_filter.mpr ⟨List.mem_of_getElem? (i := 462) (by decide +kernel), by decide +kernel⟩), by decide, by decide, by decide +kernel⟩
theorem lkRL_36 : LkV RL 36 mX8_weight 1 := ⟨lb_X8_weight, Or.inl (List.mem_filter.mpr ⟨List.mem_of_getElem? (i := 459) (by decide +kernel), by decide +kernel⟩), (List.mem_filter.mpr ⟨List.mem_of_getElem? (i := 460) (by decide +kernel), by decide +kernel⟩), (List.mem_filter.mpr ⟨List.mem_of_getElem? (i := 461) (by decide +kernel), by decide +kernel⟩)⟩
theorem lb_X9_weight : LkB mX9_weight 1 := ⟨(List.mem_filter.mpr ⟨List.mem_of_getElem? (i := 74) (by decide +kernel), by decide +kernel⟩), (List.mem_filter.mpr ⟨List.mem_of_getElem? (i := 1008) (by decide +kernel), by decide +kernel⟩), by decide, by decide, by decide +kernel⟩
theorem lkRL_39 : LkV RL 39 mX9_weight 1 := ⟨lb_X9_weight, Or.inl (List.mem_filter.mpr ⟨List.mem_of_getElem? (i := 1005) (by decide +kernel), by decide +kernel⟩), (List.mem_filter.mpr ⟨List.mem_of_getElem? (i := 1006) (by decide +kernel), by decide +kernel⟩), (List.mem_filter.mpr ⟨List.mem_of_getElem? (i := 1007) (by decide +kernel), by decide +kernel⟩)⟩
theorem lb_X8_heavy : LkB mX8_heavy 1 := ⟨(List.mem_filter.mpr ⟨List.mem_of_getElem? (i := 62) (by decide +kernel), by decide +kernel⟩), (List.mem_filter.mpr ⟨List.mem_of_getElem? (i := 466) (by decide +kernel), by decide +kernel⟩), by decide, by decide, by decide +kernel⟩
theorem lkRL_40 : LkV RL 40 mX8_heavy 1 := ⟨lb_X8_heavy, Or.inl (List.mem_filter.mpr ⟨List.mem_of_getElem? (i := 463) (by decide +kernel), by decide +kernel⟩), (List.mem_filter.mpr ⟨List.mem_of_getElem? (i := 464) (by decide +kernel), by decide +kernel⟩), (List.mem_filter.mpr ⟨List.mem_of_getElem? (i := 465) (by decide +kernel), by decide +kernel⟩)⟩
theorem lb_X9_heavy : LkB mX9_heavy 1 := ⟨(List.mem_filter.mpr ⟨List.mem_of_getElem? (i := 74) (by decide +kernel), by decide +kernel⟩), (List.mem_filter.mpr ⟨List.mem_of_getElem? (i := 1012) (by decide +kernel), by decide +kernel⟩), by decide, by decide, by decide +kernel⟩
theorem lkRL_43 : LkV RL 43 mX9_heavy 1 := ⟨lb_X9_heavy, Or.inl (List.mem_filter.mpr ⟨List.mem_of_getElem? (i := 1009) (by decide +kernel), by decide +kernel⟩), (List.mem_filter.mpr ⟨List.mem_of_getElem? (i := 1010) (by decide +kernel), by decide +kernel⟩), (List.mem_filter.mpr ⟨List.mem_of_getElem? (i := 1011) (by decide +kernel), by decide +kernel⟩)⟩
theorem lb_X8_known : LkB mX8_known 2 := ⟨(List.mem_filter.mpr ⟨List.mem_of_getElem? (i := 62) (by decide +kernel), by decide +kernel⟩), (List.mem_filter.mpr ⟨List.mem_of_getElem? (i := 481) (by decide +kernel), by decide +kernel⟩), by decide, by decide, by decide +kernel⟩
theorem lkRL_44 : LkV RL 44 mX8_known 2 := ⟨lb_X8_known, Or.inl (List.mem_filter.mpr ⟨List.mem_of_getElem? (i := 478) (by decide +kernel), by decide +kernel⟩), (List.mem_filter.mpr ⟨List.mem_of_getElem? (i := 479) (by decide +kernel), by decide +kernel⟩), (List.mem_filter.mpr ⟨List.mem_of_getElem? (i := 480) (by decide +kernel), by decide +kernel⟩)⟩
theorem lb_X9_known : LkB mX9_known 2 := ⟨(List.mem_filter.mpr ⟨List.mem_of_getElem? (i := 74) (by decide +kernel), by decide +kernel⟩), (List.mem_filter.mpr ⟨List.mem_of_getElem? (i := 1020) (by decide +kernel), by decide +kernel⟩), by decide, by decide, by decide +kernel⟩
theorem lkRL_47 : LkV RL 47 mX9_known 2 := ⟨lb_X9_known, Or.inl (List.mem_filter.mpr ⟨List.mem_of_getElem? (i := 1017) (by decide +kernel), by decide +kernel⟩), (List.mem_filter.mpr ⟨List.mem_of_getElem? (i := 1018) (by decide +kernel), by decide +kernel⟩), (List.mem_filter.mpr ⟨List.mem_of_getElem? (i := 1019) (by decide +kernel), by decide +kernel⟩)⟩
theorem lb_X8_now : LkB mX8_now 1 := ⟨(List.mem_filter.mpr ⟨List.mem_of_getElem? (i := 62) (by decide +kernel), by decide +kernel⟩), (List.mem_filter.mpr ⟨List.mem_of_getElem? (i := 502) (by decide +kernel), by decide +kernel⟩), by decide, by decide, by decide +kernel⟩
theorem lkRL_48 : LkV RL 48 mX8_now 1 := ⟨lb_X8_now, Or.inl (List.mem_filter.mpr ⟨List.mem_of_getElem? (i := 499) (by decide +kernel), by decide +kernel⟩), (List.mem_filter.mpr ⟨List.mem_of_getElem? (i := 500) (by decide +kernel), by decide +kernel⟩), (List.mem_filter.mpr ⟨List.mem_of_getElem? (i := 501) (by decide +kernel), by decide +kernel⟩)⟩
theorem lb_X9_now : LkB mX9_now 1 := ⟨(List.mem_filter.mpr ⟨List.mem_of_getElem? (i := 74) (by decide +kernel), by decide +kernel⟩), (List.mem_filter.mpr ⟨List.mem_of_getElem? (i := 1034) (by decide +kernel), by decide +kernel⟩), by decide, by decide, by decide +kernel⟩
theorem lkRL_51 : LkV RL 51 mX9_now 1 := ⟨lb_X9_now, Or.inl (List.mem_filter.mpr ⟨List.mem_of_getElem? (i := 1031) (by decide +kernel), by decide +kernel⟩), (List.mem_filter.mpr ⟨List.mem_of_getElem? (i := 1032) (by decide +kernel), by decide +kernel⟩), (List.mem_filter.mpr ⟨List.mem_of_getElem? (i := 1033) (by decide +kernel), by decide +kernel⟩)⟩
theorem lb_X8_tells : LkB mX8_tells 3 := ⟨(List.mem_filter.mpr ⟨List.mem_of_getElem? (i := 62) (by decide +kernel), by decide +kernel⟩), (List.mem_filter.mpr ⟨List.mem_of_getElem? (i := 567) (by decide +kernel), by decide +kernel⟩), by decide, by decide, by decide +kernel⟩
theorem lkRL_52 : LkV RL 52 mX8_tells 3 := ⟨lb_X8_tells, Or.inl (List.mem_filter.mpr ⟨List.mem_of_getElem? (i := 564) (by decide +kernel), by decide +kernel⟩), (List.mem_filter.mpr ⟨List.mem_of_getElem? (i := 565) (by decide +kernel), by decide +kernel⟩), (List.mem_filter.mpr ⟨List.mem_of_getElem? (i := 566) (by decide +kernel), by decide +kernel⟩)⟩
theorem lb_X9_tells : LkB mX9_tells 3 := ⟨(List.mem_filter.mpr ⟨List.mem_of_getElem? (i := 74) (by decide +kernel), by decide +kernel⟩), (List.mem_filter.mpr ⟨List.mem_of_getElem? (i := 1058) (by decide +kernel), by decide +kernel⟩), by decide, by decide, by decide +kernel⟩
theorem lkRL_56 : LkV RL 56 mX9_tells 3 := ⟨lb_X9_tells, Or.inl (List.mem_filter.mpr ⟨List.mem_of_getElem? (i := 1055) (by decide +kernel), by decide +kernel⟩), (List.mem_filter.mpr ⟨List.mem_of_getElem? (i := 1056) (by decide +kernel), by decide +kernel⟩), (List.mem_filter.mpr ⟨List.mem_of_getElem? (i := 1057) (by decide +kernel), by decide +kernel⟩)⟩
theorem lb_X8_keeps : LkB mX8_keeps 2 := ⟨(List.mem_filter.mpr ⟨List.mem_of_getElem? (i := 62) (by decide +kernel), by decide +kernel⟩), (List.mem_filter.mpr ⟨List.mem_of_getElem? (i := 585) (by decide +kernel), by decide +kernel⟩), by decide, by decide, by decide +kernel⟩
theorem lkRL_57 : LkV RL 57 mX8_keeps 2 := ⟨lb_X8_keeps, Or.inl (List.mem_filter.mpr ⟨List.mem_of_getElem? (i := 582) (by decide +kernel), by decide +kernel⟩), (List.mem_filter.mpr ⟨List.mem_of_getElem? (i := 583) (by decide +kernel), by decide +kernel⟩), (List.mem_filter.mpr ⟨List.mem_of_getElem? (i := 584) (by decide +kernel), by decide +kernel⟩)⟩
theorem lb_X9_keeps : LkB mX9_keeps 2 := ⟨(List.mem_filter.mpr ⟨List.mem_of_getElem? (i := 74) (by decide +kernel), by decide +kernel⟩), (List.mem_filter.mpr ⟨List.mem_of_getElem? (i := 1070) (by decide +kernel), by decide +kernel⟩), by decide, by decide, by decide +kernel⟩
theorem lkRL_60 : LkV RL 60 mX9_keeps 2 := ⟨lb_X9_keeps, Or.inl (List.mem_filter.mpr ⟨List.mem_of_getElem? (i := 1067) (by decide +kernel), by decide +kernel⟩), (List.mem_filter.mpr ⟨List.mem_of_getElem? (i := 1068) (by decide +kernel), by decide +kernel⟩), (List.mem_filter.mpr ⟨List.mem_of_getElem? (i := 1069) (by decide +kernel), by decide +kernel⟩)⟩
theorem lb_X8_day : LkB mX8_day 0 := ⟨(List.mem_filter.mpr ⟨List.mem_of_getElem? (i := 62) (by decide +kernel), by decide +kernel⟩), (List.mem_filter.mpr ⟨List.mem_of_getElem? (i := 589) (by decide +kernel), by decide +kernel⟩), by decide, by decide, by decide +kernel⟩
theorem lkRL_61 : LkV RL 61 mX8_day 0 := ⟨lb_X8_day, Or.inl (List.mem_filter.mpr ⟨List.mem_of_getElem? (i := 586) (by decide +kernel), by decide +kernel⟩), (List.mem_filter.mpr ⟨List.mem_of_getElem? (i := 587) (by decide +kernel), by decide +kernel⟩), (List.mem_filter.mpr ⟨List.mem_of_getElem? (i := 588) (by decide +kernel), by decide +kernel⟩)⟩
theorem lb_X9_day : LkB mX9_day 0 := ⟨(List.mem_filter.mpr ⟨List.mem_of_getElem? (i := 74) (by decide +kernel), by decide +kernel⟩), (List.mem_filter.mpr ⟨List.mem_of_getElem? (i := 1074) (by decide +kernel), by decide +kernel⟩), by decide, by decide, by decide +kernel⟩
theorem lkRL_64 : LkV RL 64 mX9_day 0 := ⟨lb_X9_day, Or.inl (List.mem_filter.mpr ⟨List.mem_of_getElem? (i := 1071) (by decide +kernel), by decide +kernel⟩), (List.mem_filter.mpr ⟨List.mem_of_getElem? (i := 1072) (by decide +kernel), by decide +kernel⟩), (List.mem_filter.mpr ⟨List.mem_of_getElem? (i := 1073) (by decide +kernel), by decide +kernel⟩)⟩
theorem lb_X8_weighs : LkB mX8_weighs 2 := ⟨(List.mem_filter.mpr ⟨List.mem_of_getElem? (i := 62) (by decide +kernel), by decide +kernel⟩), (List.mem_filter.mpr ⟨List.mem_of_getElem? (i := 593) (by decide +kernel), by decide +kernel⟩), by decide, by decide, by decide +kernel⟩
theorem lkRL_65 : LkV RL 65 mX8_weighs 2 := ⟨lb_X8_weighs, Or.inl (List.mem_filter.mpr ⟨List.mem_of_getElem? (i := 590) (by decide +kernel), by decide +kernel⟩), (List.mem_filter.mpr ⟨List.mem_of_getElem? (i := 591) (by decide +kernel), by decide +kernel⟩), (List.mem_filter.mpr ⟨List.mem_of_getElem? (i := 592) (by decide +kernel), by decide +kernel⟩)⟩
theorem lb_X9_weighs : LkB mX9_weighs 2 := ⟨(List.mem_filter.mpr ⟨List.mem_of_getElem? (i := 74) (by decide +kernel), by decide +kernel⟩), (List.mem_filter.mpr ⟨List.mem_of_getElem? (i := 1078) (by decide +kernel), by decide +kernel⟩), by decide, by decide, by decide +kernel⟩
theorem lkRL_68 : LkV RL 68 mX9_weighs 2 := ⟨lb_X9_weighs, Or.inl (List.mem_filter.mpr ⟨List.mem_of_getElem? (i := 1075) (by decide +kernel), by decide +kernel⟩), (List.mem_filter.mpr ⟨List.mem_of_getElem? (i := 1076) (by decide +kernel), by decide +kernel⟩), (List.mem_filter.mpr ⟨List.mem_of_getElem? (i := 1077) (by decide +kernel), by decide +kernel⟩)⟩
theorem lb_X8_forgets : LkB mX8_forgets 0 := ⟨(List.mem_filter.mpr ⟨List.mem_of_getElem? (i := 62) (by decide +kernel), by decide +kernel⟩), (List.mem_filter.mpr ⟨List.mem_of_getElem? (i := 602) (by decide +kernel), by decide +kernel⟩), by decide, by decide, by decide +kernel⟩
theorem lkRL_69 : LkV RL 69 mX8_forgets 0 := ⟨lb_X8_forgets, Or.inl (List.mem_filter.mpr ⟨List.mem_of_getElem? (i := 599) (by decide +kernel), by decide +kernel⟩), (List.mem_filter.mpr ⟨List.mem_of_getElem? (i := 600) (by decide +kernel), by decide +kernel⟩), (List.mem_filter.mpr ⟨List.mem_of_getElem? (i := 601) (by decide +kernel), by decide +kernel⟩)⟩
theorem lb_X9_forgets : LkB mX9_forgets 0 := ⟨(List.mem_filter.mpr ⟨List.mem_of_getElem? (i := 74) (by decide +kernel), by decide +kernel⟩), (List.mem_filter.mpr ⟨List.mem_of_getElem? (i := 1082) (by decide +kernel), by decide +kernel⟩), by decide, by decide, by decide +kernel⟩
theorem lkRL_72 : LkV RL 72 mX9_forgets 0 := ⟨lb_X9_forgets, Or.inl (List.mem_filter.mpr ⟨List.mem_of_getElem? (i := 1079) (by decide +kernel), by decide +kernel⟩), (List.mem_filter.mpr ⟨List.mem_of_getElem? (i := 1080) (by decide +kernel), by decide +kernel⟩), (List.mem_filter.mpr ⟨List.mem_of_getElem? (i := 1081) (by decide +kernel), by decide +kernel⟩)⟩
theorem lb_X8_undo : LkB mX8_undo 0 := ⟨(List.mem_filter.mpr ⟨List.mem_of_getElem? (i := 62) (by decide +kernel), by decide +kernel⟩), (List.mem_filter.mpr ⟨List.mem_of_getElem? (i := 606) (by decide +kernel), by decide +kernel⟩), by decide, by decide, by decide +kernel⟩
theorem lkRL_73 : LkV RL 73 mX8_undo 0 := ⟨lb_X8_undo, Or.inl (List.mem_filter.mpr ⟨List.mem_of_getElem? (i := 603) (by decide +kernel), by decide +kernel⟩), (List.mem_filter.mpr ⟨List.mem_of_getElem? (i := 604) (by decide +kernel), by decide +kernel⟩), (List.mem_filter.mpr ⟨List.mem_of_getElem? (i := 605) (by decide +kernel), by decide +kernel⟩)⟩
theorem lb_X9_undo : LkB mX9_undo 0 := ⟨(List.mem_filter.mpr ⟨List.mem_of_getElem? (i := 74) (by decide +kernel), by decide +kernel⟩), (List.mem_filter.mpr ⟨List.mem_of_getElem? (i := 1086) (by decide +kernel), by decide +kernel⟩), by decide, by decide, by decide +kernel⟩
theorem lkRL_76 : LkV RL 76 mX9_undo 0 := ⟨lb_X9_undo, Or.inl (List.mem_filter.mpr ⟨List.mem_of_getElem? (i := 1083) (by decide +kernel), by decide +kernel⟩), (List.mem_filter.mpr ⟨List.mem_of_getElem? (i := 1084) (by decide +kernel), by decide +kernel⟩), (List.mem_filter.mpr ⟨List.mem_of_getElem? (i := 1085) (by decide +kernel), by decide +kernel⟩)⟩
theorem lb_X8_beam : LkB mX8_beam 2 := ⟨(List.mem_filter.mpr ⟨List.mem_of_getElem? (i := 62) (by decide +kernel), by decide +kernel⟩), (List.mem_filter.mpr ⟨List.mem_of_getElem? (i := 614) (by decide +kernel), by decide +kernel⟩), by decide, by decide, by decide +kernel⟩
theorem lkRL_77 : LkV RL 77 mX8_beam 2 := ⟨lb_X8_beam, Or.inl (List.mem_filter.mpr ⟨List.mem_of_getElem? (i := 611) (by decide +kernel), by decide +kernel⟩), (List.mem_filter.mpr ⟨List.mem_of_getElem? (i := 612) (by decide +kernel), by decide +kernel⟩), (List.mem_filter.mpr ⟨List.mem_of_getElem? (i := 613) (by decide +kernel), by decide +kernel⟩)⟩
theorem lb_X9_beam : LkB mX9_beam 2 := ⟨(List.mem_filter.mpr ⟨List.mem_of_getElem? (i := 74) (by decide +kernel), by decide +kernel⟩), (List.mem_filter.mpr ⟨List.mem_of_getElem? (i := 1090) (by decide +kernel), by decide +kernel⟩), by decide, by decide, by decide +kernel⟩
theorem lkRL_80 : LkV RL 80 mX9_beam 2 := ⟨lb_X9_beam, Or.inl (List.mem_filter.mpr ⟨List.mem_of_getElem? (i := 1087) (by decide +kernel), by decide +kernel⟩), (List.mem_filter.mpr ⟨List.mem_of_getElem? (i := 1088) (by decide +kernel), by decide +kernel⟩), (List.mem_filter.mpr ⟨List.mem_of_getElem? (i := 1089) (by decide +kernel), by decide +kernel⟩)⟩
theorem lb_X8_level : LkB mX8_level 3 := ⟨(List.mem_filter.mpr ⟨List.mem_of_getElem? (i := 62) (by decide +kernel), by decide +kernel⟩), (List.mem_filter.mpr ⟨List.mem_of_getElem? (i := 619) (by decide +kernel), by decide +kernel⟩), by decide, by decide, by decide +kernel⟩
theorem lkRL_81 : LkV RL 81 mX8_level 3 := ⟨lb_X8_level, Or.inl (List.mem_filter.mpr ⟨List.mem_of_getElem? (i := 616) (by decide +kernel), by decide +kernel⟩), (List.mem_filter.mpr ⟨List.mem_of_getElem? (i := 617) (by decide +kernel), by decide +kernel⟩), (List.mem_filter.mpr ⟨List.mem_of_getElem? (i := 618) (by decide +kernel), by decide +kernel⟩)⟩
theorem lb_X9_level : LkB mX9_level 3 := ⟨(List.mem_filter.mpr ⟨List.mem_of_getElem? (i := 74) (by decide +kernel), by decide +kernel⟩), (List.mem_filter.mpr ⟨List.mem_of_getElem? (i := 1095) (by decide +kernel), by decide +kernel⟩), by decide, by decide, by decide +kernel⟩
theorem lkRL_84 : LkV RL 84 mX9_level 3 := ⟨lb_X9_level, Or.inl (List.mem_filter.mpr ⟨List.mem_of_getElem? (i := 1092) (by decide +kernel), by decide +kernel⟩), (List.mem_filter.mpr ⟨List.mem_of_getElem? (i := 1093) (by decide +kernel), by decide +kernel⟩), (List.mem_filter.mpr ⟨List.mem_of_getElem? (i := 1094) (by decide +kernel), by decide +kernel⟩)⟩
theorem lb_X8_when : LkB mX8_when 2 := ⟨(List.mem_filter.mpr ⟨List.mem_of_getElem? (i := 62) (by decide +kernel), by decide +kernel⟩), (List.mem_filter.mpr ⟨List.mem_of_getElem? (i := 650) (by decide +kernel), by decide +kernel⟩), by decide, by decide, by decide +kernel⟩
theorem lkRL_85 : LkV RL 85 mX8_when 2 := ⟨lb_X8_when, Or.inl (List.mem_filter.mpr ⟨List.mem_of_getElem? (i := 647) (by decide +kernel), by decide +kernel⟩), (List.mem_filter.mpr ⟨List.mem_of_getElem? (i := 648) (by decide +kernel), by decide +kernel⟩), (List.mem_filter.mpr ⟨List.mem_of_getElem? (i := 649) (by decide +kernel), by decide +kernel⟩)⟩
theorem lb_X9_when : LkB mX9_when 2 := ⟨(List.mem_filter.mpr ⟨List.mem_of_getElem? (i := 74) (by decide +kernel), by decide +kernel⟩), (List.mem_filter.mpr ⟨List.mem_of_getElem? (i := 1115) (by decide +kernel), by decide +kernel⟩), by decide, by decide, by decide +kernel⟩
theorem lkRL_88 : LkV RL 88 mX9_when 2 := ⟨lb_X9_when, Or.inl (List.mem_filter.mpr ⟨List.mem_of_getElem? (i := 1112) (by decide +kernel), by decide +kernel⟩), (List.mem_filter.mpr ⟨List.mem_of_getElem? (i := 1113) (by decide +kernel), by decide +kernel⟩), (List.mem_filter.mpr ⟨List.mem_of_getElem? (i := 1114) (by decide +kernel), by decide +kernel⟩)⟩
theorem lb_X8_odds : LkB mX8_odds 5 := ⟨(List.mem_filter.mpr ⟨List.mem_of_getElem? (i := 62) (by decide +kernel), by decide +kernel⟩), (List.mem_filter.mpr ⟨List.mem_of_getElem? (i := 654) (by decide +kernel), by decide +kernel⟩), by decide, by decide, by decide +kernel⟩
theorem lkRL_89 : LkV RL 89 mX8_odds 5 := ⟨lb_X8_odds, Or.inl (List.mem_filter.mpr ⟨List.mem_of_getElem? (i := 651) (by decide +kernel), by decide +kernel⟩), (List.mem_filter.mpr ⟨List.mem_of_getElem? (i := 652) (by decide +kernel), by decide +kernel⟩), (List.mem_filter.mpr ⟨List.mem_of_getElem? (i := 653) (by decide +kernel), by decide +kernel⟩)⟩
theorem lb_X9_odds : LkB mX9_odds 5 := ⟨(List.mem_filter.mpr ⟨List.mem_of_getElem? (i := 74) (by decide +kernel), by decide +kernel⟩), (List.mem_filter.mpr ⟨List.mem_of_getElem? (i := 1123) (by decide +kernel), by decide +kernel⟩), by decide, by decide, by decide +kernel⟩
theorem lkRL_93 : LkV RL 93 mX9_odds 5 := ⟨lb_X9_odds, Or.inl (List.mem_filter.mpr ⟨List.mem_of_getElem? (i := 1120) (by decide +kernel), by decide +kernel⟩), (List.mem_filter.mpr ⟨List.mem_of_getElem? (i := 1121) (by decide +kernel), by decide +kernel⟩), (List.mem_filter.mpr ⟨List.mem_of_getElem? (i := 1122) (by decide +kernel), by decide +kernel⟩)⟩
theorem lb_X8_brass : LkB mX8_brass 2 := ⟨(List.mem_filter.mpr ⟨List.mem_of_getElem? (i := 62) (by decide +kernel), by decide +kernel⟩), (List.mem_filter.mpr ⟨List.mem_of_getElem? (i := 669) (by decide +kernel), by decide +kernel⟩), by decide, by decide, by decide +kernel⟩
theorem lkRL_94 : LkV RL 94 mX8_brass 2 := ⟨lb_X8_brass, Or.inl (List.mem_filter.mpr ⟨List.mem_of_getElem? (i := 666) (by decide +kernel), by decide +kernel⟩), (List.mem_filter.mpr ⟨List.mem_of_getElem? (i := 667) (by decide +kernel), by decide +kernel⟩), (List.mem_filter.mpr ⟨List.mem_of_getElem? (i := 668) (by decide +kernel), by decide +kernel⟩)⟩
theorem lb_X9_brass : LkB mX9_brass 2 := ⟨(List.mem_filter.mpr ⟨List.mem_of_getElem? (i := 74) (by decide +kernel), by decide +kernel⟩), (List.mem_filter.mpr ⟨List.mem_of_getElem? (i := 1132) (by decide +kernel), by decide +kernel⟩), by decide, by decide, by decide +kernel⟩
theorem lkRL_97 : LkV RL 97 mX9_brass 2 := ⟨lb_X9_brass, Or.inl (List.mem_filter.mpr ⟨List.mem_of_getElem? (i := 1129) (by decide +kernel), by decide +kernel⟩), (List.mem_filter.mpr ⟨List.mem_of_getElem? (i := 1130) (by decide +kernel), by decide +kernel⟩), (List.mem_filter.mpr ⟨List.mem_of_getElem? (i := 1131) (by decide +kernel), by decide +kernel⟩)⟩
theorem lb_X8_shows : LkB mX8_shows 3 := ⟨(List.mem_filter.mpr ⟨List.mem_of_getElem? (i := 62) (by decide +kernel), by decide +kernel⟩), (List.mem_filter.mpr ⟨List.mem_of_getElem? (i := 683) (by decide +kernel), by decide +kernel⟩), by decide, by decide, by decide +kernel⟩
theorem lkRL_98 : LkV RL 98 mX8_shows 3 := ⟨lb_X8_shows, Or.inl (List.mem_filter.mpr ⟨List.mem_of_getElem? (i := 680) (by decide +kernel), by decide +kernel⟩), (List.mem_filter.mpr ⟨List.mem_of_getElem? (i := 681) (by decide +kernel), by decide +kernel⟩), (List.mem_filter.mpr ⟨List.mem_of_getElem? (i := 682) (by decide +kernel), by decide +kernel⟩)⟩
theorem lb_X9_shows : LkB mX9_shows 3 := ⟨(List.mem_filter.mpr ⟨List.mem_of_getElem? (i := 74) (by decide +kernel), by decide +kernel⟩), (List.mem_filter.mpr ⟨List.mem_of_getElem? (i := 1140) (by decide +kernel), by decide +kernel⟩), by decide, by decide, by decide +kernel⟩
theorem lkRL_101 : LkV RL 101 mX9_shows 3 := ⟨lb_X9_shows, Or.inl (List.mem_filter.mpr ⟨List.mem_of_getElem? (i := 1137) (by decide +kernel), by decide +kernel⟩), (List.mem_filter.mpr ⟨List.mem_of_getElem? (i := 1138) (by decide +kernel), by decide +kernel⟩), (List.mem_filter.mpr ⟨List.mem_of_getElem? (i := 1139) (by decide +kernel), by decide +kernel⟩)⟩
theorem lb_X8_can : LkB mX8_can 2 := ⟨(List.mem_filter.mpr ⟨List.mem_of_getElem? (i := 62) (by decide +kernel), by decide +kernel⟩), (List.mem_filter.mpr ⟨List.mem_of_getElem? (i := 691) (by decide +kernel), by decide +kernel⟩), by decide, by decide, by decide +kernel⟩
theorem lkRL_102 : LkV RL 102 mX8_can 2 := ⟨lb_X8_can, Or.inl (List.mem_filter.mpr ⟨List.mem_of_getElem? (i := 688) (by decide +kernel), by decide +kernel⟩), (List.mem_filter.mpr ⟨List.mem_of_getElem? (i := 689) (by decide +kernel), by decide +kernel⟩), (List.mem_filter.mpr ⟨List.mem_of_getElem? (i := 690) (by decide +kernel), by decide +kernel⟩)⟩
theorem lb_X9_can : LkB mX9_can 2 := ⟨(List.mem_filter.mpr ⟨List.mem_of_getElem? (i := 74) (by decide +kernel), by decide +kernel⟩), (List.mem_filter.mpr ⟨List.mem_of_getElem? (i := 1144) (by decide +kernel), by decide +kernel⟩), by decide, by decide, by decide +kernel⟩
theorem lkRL_105 : LkV RL 105 mX9_can 2 := ⟨lb_X9_can, Or.inl (List.mem_filter.mpr ⟨List.mem_of_getElem? (i := 1141) (by decide +kernel), by decide +kernel⟩), (List.mem_filter.mpr ⟨List.mem_of_getElem? (i := 1142) (by decide +kernel), by decide +kernel⟩), (List.mem_filter.mpr ⟨List.mem_of_getElem? (i := 1143) (by decide +kernel), by decide +kernel⟩)⟩
theorem lb_X8_saw : LkB mX8_saw 2 := ⟨(List.mem_filter.mpr ⟨List.mem_of_getElem? (i := 62) (by decide +kernel), by decide +kernel⟩), (List.mem_filter.mpr ⟨List.mem_of_getElem? (i := 722) (by decide +kernel), by decide +kernel⟩), by decide, by decide, by decide +kernel⟩
theorem lkRL_106 : LkV RL 106 mX8_saw 2 := ⟨lb_X8_saw, Or.inl (List.mem_filter.mpr ⟨List.mem_of_getElem? (i := 719) (by decide +kernel), by decide +kernel⟩), (List.mem_filter.mpr ⟨List.mem_of_getElem? (i := 720) (by decide +kernel), by decide +kernel⟩), (List.mem_filter.mpr ⟨List.mem_of_getElem? (i := 721) (by decide +kernel), by decide +kernel⟩)⟩
theorem lb_X9_saw : LkB mX9_saw 2 := ⟨(List.mem_filter.mpr ⟨List.mem_of_getElem? (i := 74) (by decide +kernel), by decide +kernel⟩), (List.mem_filter.mpr ⟨List.mem_of_getElem? (i := 1152) (by decide +kernel), by decide +kernel⟩), by decide, by decide, by decide +kernel⟩
theorem lkRL_109 : LkV RL 109 mX9_saw 2 := ⟨lb_X9_saw, Or.inl (List.mem_filter.mpr ⟨List.mem_of_getElem? (i := 1149) (by decide +kernel), by decide +kernel⟩), (List.mem_filter.mpr ⟨List.mem_of_getElem? (i := 1150) (by decide +kernel), by decide +kernel⟩), (List.mem_filter.mpr ⟨List.mem_of_getElem? (i := 1151) (by decide +kernel), by decide +kernel⟩)⟩
theorem lb_X8_laws : LkB mX8_laws 2 := ⟨(List.mem_filter.mpr ⟨List.mem_of_getElem? (i := 62) (by decide +kernel), by decide +kernel⟩), (List.mem_filter.mpr ⟨List.mem_of_getElem? (i := 730) (by decide +kernel), by decide +kernel⟩), by decide, by decide, by decide +kernel⟩
theorem lkRL_110 : LkV RL 110 mX8_laws 2 := ⟨lb_X8_laws, Or.inl (List.mem_filter.mpr ⟨List.mem_of_getElem? (i := 727) (by decide +kernel), by decide +kernel⟩), (List.mem_filter.mpr ⟨List.mem_of_getElem? (i := 728) (by decide +kernel), by decide +kernel⟩), (List.mem_filter.mpr ⟨List.mem_of_getElem? (i := 729) (by decide +kernel), by decide +kernel⟩)⟩
theorem lb_X9_laws : LkB mX9_laws 2 := ⟨(List.mem_filter.mpr ⟨List.mem_of_getElem? (i := 74) (by decide +kernel), by decide +kernel⟩), (List.mem_filter.mpr ⟨List.mem_of_getElem? (i := 1156) (by decide +kernel), by decide +kernel⟩), by decide, by decide, by decide +kernel⟩
theorem lkRL_113 : LkV RL 113 mX9_laws 2 := ⟨lb_X9_laws, Or.inl (List.mem_filter.mpr ⟨List.mem_of_getElem? (i := 1153) (by decide +kernel), by decide +kernel⟩), (List.mem_filter.mpr ⟨List.mem_of_getElem? (i := 1154) (by decide +kernel), by decide +kernel⟩), (List.mem_filter.mpr ⟨List.mem_of_getElem? (i := 1155) (by decide +kernel), by decide +kernel⟩)⟩
theorem lb_X8_clean : LkB mX8_clean 0 := ⟨(List.mem_filter.mpr ⟨List.mem_of_getElem? (i := 62) (by decide +kernel), by decide +kernel⟩), (List.mem_filter.mpr ⟨List.mem_of_getElem? (i := 752) (by decide +kernel), by decide +kernel⟩), by decide, by decide, by decide +kernel⟩
theorem lkRL_114 : LkV RL 114 mX8_clean 0 := ⟨lb_X8_clean, Or.inl (List.mem_filter.mpr ⟨List.mem_of_getElem? (i := 749) (by decide +kernel), by decide +kernel⟩), (List.mem_filter.mpr ⟨List.mem_of_getElem? (i := 750) (by decide +kernel), by decide +kernel⟩), (List.mem_filter.mpr ⟨List.mem_of_getElem? (i := 751) (by decide +kernel), by decide +kernel⟩)⟩
theorem lb_X9_clean : LkB mX9_clean 0 := ⟨(List.mem_filter.mpr ⟨List.mem_of_getElem? (i := 74) (by decide +kernel), by decide +kernel⟩), (List.mem_filter.mpr ⟨List.mem_of_getElem? (i := 1160) (by decide +kernel), by decide +kernel⟩), by decide, by decide, by decide +kernel⟩
theorem lkRL_117 : LkV RL 117 mX9_clean 0 := ⟨lb_X9_clean, Or.inl (List.mem_filter.mpr ⟨List.mem_of_getElem? (i := 1157) (by decide +kernel), by decide +kernel⟩), (List.mem_filter.mpr ⟨List.mem_of_getElem? (i := 1158) (by decide +kernel), by decide +kernel⟩), (List.mem_filter.mpr ⟨List.mem_of_getElem? (i := 1159) (by decide +kernel), by decide +kernel⟩)⟩
theorem lb_X8_rate : LkB mX8_rate 2 := ⟨(List.mem_filter.mpr ⟨List.mem_of_getElem? (i := 62) (by decide +kernel), by decide +kernel⟩), (List.mem_filter.mpr ⟨List.mem_of_getElem? (i := 757) (by decide +kernel), by decide +kernel⟩), by decide, by decide, by decide +kernel⟩
theorem lkRL_118 : LkV RL 118 mX8_rate 2 := ⟨lb_X8_rate, Or.inl (List.mem_filter.mpr ⟨List.mem_of_getElem? (i := 754) (by decide +kernel), by decide +kernel⟩), (List.mem_filter.mpr ⟨List.mem_of_getElem? (i := 755) (by decide +kernel), by decide +kernel⟩), (List.mem_filter.mpr ⟨List.mem_of_getElem? (i := 756) (by decide +kernel), by decide +kernel⟩)⟩
theorem lb_X9_rate : LkB mX9_rate 2 := ⟨(List.mem_filter.mpr ⟨List.mem_of_getElem? (i := 74) (by decide +kernel), by decide +kernel⟩), (List.mem_filter.mpr ⟨List.mem_of_getElem? (i := 1164) (by decide +kernel), by decide +kernel⟩), by decide, by decide, by decide +kernel⟩
theorem lkRL_121 : LkV RL 121 mX9_rate 2 := ⟨lb_X9_rate, Or.inl (List.mem_filter.mpr ⟨List.mem_of_getElem? (i := 1161) (by decide +kernel), by decide +kernel⟩), (List.mem_filter.mpr ⟨List.mem_of_getElem? (i := 1162) (by decide +kernel), by decide +kernel⟩), (List.mem_filter.mpr ⟨List.mem_of_getElem? (i := 1163) (by decide +kernel), by decide +kernel⟩)⟩
theorem lb_X8_keep : LkB mX8_keep 1 := ⟨(List.mem_filter.mpr ⟨List.mem_of_getElem? (i := 62) (by decide +kernel), by decide +kernel⟩), (List.mem_filter.mpr ⟨List.mem_of_getElem? (i := 793) (by decide +kernel), by decide +kernel⟩), by decide, by decide, by decide +kernel⟩
theorem lkRL_122 : LkV RL 122 mX8_keep 1 := ⟨lb_X8_keep, Or.inl (List.mem_filter.mpr ⟨List.mem_of_getElem? (i := 790) (by decide +kernel), by decide +kernel⟩), (List.mem_filter.mpr ⟨List.mem_of_getElem? (i := 791) (by decide +kernel), by decide +kernel⟩), (List.mem_filter.mpr ⟨List.mem_of_getElem? (i := 792) (by decide +kernel), by decide +kernel⟩)⟩
theorem lb_X9_keep : LkB mX9_keep 1 := ⟨(List.mem_filter.mpr ⟨List.mem_of_getElem? (i := 74) (by decide +kernel), by decide +kernel⟩), (List.mem_filter.mpr ⟨List.mem_of_getElem? (i := 1173) (by decide +kernel), by decide +kernel⟩), by decide, by decide, by decide +kernel⟩
theorem lkRL_125 : LkV RL 125 mX9_keep 1 := ⟨lb_X9_keep, Or.inl (List.mem_filter.mpr ⟨List.mem_of_getElem? (i := 1170) (by decide +kernel), by decide +kernel⟩), (List.mem_filter.mpr ⟨List.mem_of_getElem? (i := 1171) (by decide +kernel), by decide +kernel⟩), (List.mem_filter.mpr ⟨List.mem_of_getElem? (i := 1172) (by decide +kernel), by decide +kernel⟩)⟩
theorem lb_X8_back : LkB mX8_back 1 := ⟨(List.mem_filter.mpr ⟨List.mem_of_getElem? (i := 62) (by decide +kernel), by decide +kernel⟩), (List.mem_filter.mpr ⟨List.mem_of_getElem? (i := 798) (by decide +kernel), by decide +kernel⟩), by decide, by decide, by decide +kernel⟩
theorem lkRL_126 : LkV RL 126 mX8_back 1 := ⟨lb_X8_back, Or.inl (List.mem_filter.mpr ⟨List.mem_of_getElem? (i := 795) (by decide +kernel), by decide +kernel⟩), (List.mem_filter.mpr ⟨List.mem_of_getElem? (i := 796) (by decide +kernel), by decide +kernel⟩), (List.mem_filter.mpr ⟨List.mem_of_getElem? (i := 797) (by decide +kernel), by decide +kernel⟩)⟩
theorem lb_X9_back : LkB mX9_back 1 := ⟨(List.mem_filter.mpr ⟨List.mem_of_getElem? (i := 74) (by decide +kernel), by decide +kernel⟩), (List.mem_filter.mpr ⟨List.mem_of_getElem? (i := 1177) (by decide +kernel), by decide +kernel⟩), by decide, by decide, by decide +kernel⟩
theorem lkRL_129 : LkV RL 129 mX9_back 1 := ⟨lb_X9_back, Or.inl (List.mem_filter.mpr ⟨List.mem_of_getElem? (i := 1174) (by decide +kernel), by decide +kernel⟩), (List.mem_filter.mpr ⟨List.mem_of_getElem? (i := 1175) (by decide +kernel), by decide +kernel⟩), (List.mem_filter.mpr ⟨List.mem_of_getElem? (i := 1176) (by decide +kernel), by decide +kernel⟩)⟩
theorem lb_X8_count : LkB mX8_count 1 := ⟨(List.mem_filter.mpr ⟨List.mem_of_getElem? (i := 62) (by decide +kernel), by decide +kernel⟩), (List.mem_filter.mpr ⟨List.mem_of_getElem? (i := 802) (by decide +kernel), by decide +kernel⟩), by decide, by decide, by decide +kernel⟩
theorem lkRL_130 : LkV RL 130 mX8_count 1 := ⟨lb_X8_count, Or.inl (List.mem_filter.mpr ⟨List.mem_of_getElem? (i := 799) (by decide +kernel), by decide +kernel⟩), (List.mem_filter.mpr ⟨List.mem_of_getElem? (i := 800) (by decide +kernel), by decide +kernel⟩), (List.mem_filter.mpr ⟨List.mem_of_getElem? (i := 801) (by decide +kernel), by decide +kernel⟩)⟩
theorem lb_X9_count : LkB mX9_count 1 := ⟨(List.mem_filter.mpr ⟨List.mem_of_getElem? (i := 74) (by decide +kernel), by decide +kernel⟩), (List.mem_filter.mpr ⟨List.mem_of_getElem? (i := 1181) (by decide +kernel), by decide +kernel⟩), by decide, by decide, by decide +kernel⟩
theorem lkRL_133 : LkV RL 133 mX9_count 1 := ⟨lb_X9_count, Or.inl (List.mem_filter.mpr ⟨List.mem_of_getElem? (i := 1178) (by decide +kernel), by decide +kernel⟩), (List.mem_filter.mpr ⟨List.mem_of_getElem? (i := 1179) (by decide +kernel), by decide +kernel⟩), (List.mem_filter.mpr ⟨List.mem_of_getElem? (i := 1180) (by decide +kernel), by decide +kernel⟩)⟩
theorem lb_X8_trace : LkB mX8_trace 0 := ⟨(List.mem_filter.mpr ⟨List.mem_of_getElem? (i := 62) (by decide +kernel), by decide +kernel⟩), (List.mem_filter.mpr ⟨List.mem_of_getElem? (i := 806) (by decide +kernel), by decide +kernel⟩), by decide, by decide, by decide +kernel⟩
theorem lkRL_134 : LkV RL 134 mX8_trace 0 := ⟨lb_X8_trace, Or.inl (List.mem_filter.mpr ⟨List.mem_of_getElem? (i := 803) (by decide +kernel), by decide +kernel⟩), (List.mem_filter.mpr ⟨List.mem_of_getElem? (i := 804) (by decide +kernel), by decide +kernel⟩), (List.mem_filter.mpr ⟨List.mem_of_getElem? (i := 805) (by decide +kernel), by decide +kernel⟩)⟩
theorem lb_X9_trace : LkB mX9_trace 0 := ⟨(List.mem_filter.mpr ⟨List.mem_of_getElem? (i := 74) (by decide +kernel), by decide +kernel⟩), (List.mem_filter.mpr ⟨List.mem_of_getElem? (i := 1185) (by decide +kernel), by decide +kernel⟩), by decide, by decide, by decide +kernel⟩
theorem lkRL_138 : LkV RL 138 mX9_trace 0 := ⟨lb_X9_trace, Or.inl (List.mem_filter.mpr ⟨List.mem_of_getElem? (i := 1182) (by decide +kernel), by decide +kernel⟩), (List.mem_filter.mpr ⟨List.mem_of_getElem? (i := 1183) (by decide +kernel), by decide +kernel⟩), (List.mem_filter.mpr ⟨List.mem_of_getElem? (i := 1184) (by decide +kernel), by decide +kernel⟩)⟩
def wp_L_law_J1010 (X18 : Int × aH → Prop) (x3_18 : Int) (h_1010 : aH) : Prop :=
  X18 ((x3_18 + 6), h_1010)

def wp_L_law_B18 (LL : Nat) (sx : Int → Int) (X18 : Int × aH → Prop) (x3_18 : Int) (h_18 : aH) : Prop :=
  inR x3_18 ∧ inR ((LL : Int) - 6) ∧ ((((LL : Int) - 6) < x3_18 → True) ∧ (¬ ((LL : Int) - 6) < x3_18 → (0 ≤ x3_18 ∧ x3_18 < LL) ∧ inR (band (sx x3_18) 31) ∧ ((((band (sx x3_18) 31) < 0 ∨ 29 < (band (sx x3_18) 31)) → wp_L_law_J1010 X18 x3_18 h_18) ∧ ((band (sx x3_18) 31) = 0 → (0 ≤ (x3_18 + 1) ∧ (x3_18 + 1) < LL) ∧ wp_X8_type (sx (x3_18 + 1)) h_18 (fun r7 h8 => wp_X9_type (sx (x3_18 + 1)) h8 (fun r9 h10 => inR r7 ∧ inR r9 ∧ ((r7 = r9 → wp_L_law_J1010 X18 x3_18 h10) ∧ (¬ r7 = r9 → False))))) ∧ ((band (sx x3_18) 31) = 1 → wp_X8_clear  h_18 (fun r14 h15 => wp_X9_clear  h15 (fun r16 h17 => inR r14 ∧ inR r16 ∧ ((r14 = r16 → wp_L_law_J1010 X18 x3_18 h17) ∧ (¬ r14 = r16 → False))))) ∧ ((band (sx x3_18) 31) = 2 → wp_X8_shop  h_18 (fun r21 h22 => wp_X9_shop  h22 (fun r23 h24 => inR r21 ∧ inR r23 ∧ ((r21 = r23 → wp_L_law_J1010 X18 x3_18 h24) ∧ (¬ r21 = r23 → False))))) ∧ ((band (sx x3_18) 31) = 3 → (0 ≤ (x3_18 + 1) ∧ (x3_18 + 1) < LL) ∧ (0 ≤ (x3_18 + 2) ∧ (x3_18 + 2) < LL) ∧ wp_X8_holds (sx (x3_18 + 1)) (sx (x3_18 + 2)) h_18 (fun r30 => wp_X9_holds (sx (x3_18 + 1)) (sx (x3_18 + 2)) h_18 (fun r31 h32 => inR r30 ∧ inR r31 ∧ ((r30 = r31 → wp_L_law_J1010 X18 x3_18 h32) ∧ (¬ r30 = r31 → False))))) ∧ ((band (sx x3_18) 31) = 4 → (0 ≤ (x3_18 + 1) ∧ (x3_18 + 1) < LL) ∧ (0 ≤ (x3_18 + 2) ∧ (x3_18 + 2) < LL) ∧ wp_X8_grows (sx (x3_18 + 1)) (sx (x3_18 + 2)) h_18 (fun r38 => wp_X9_grows (sx (x3_18 + 1)) (sx (x3_18 + 2)) h_18 (fun r39 h40 => inR r38 ∧ inR r39 ∧ ((r38 = r39 → wp_L_law_J1010 X18 x3_18 h40) ∧ (¬ r38 = r39 → False))))) ∧ ((band (sx x3_18) 31) = 5 → (0 ≤ (x3_18 + 1) ∧ (x3_18 + 1) < LL) ∧ wp_X8_weight (sx (x3_18 + 1)) h_18 (fun r45 => wp_X9_weight (sx (x3_18 + 1)) h_18 (fun r46 h47 => inR r45 ∧ inR r46 ∧ ((r45 = r46 → wp_L_law_J1010 X18 x3_18 h47) ∧ (¬ r45 = r46 → False))))) ∧ ((band (sx x3_18) 31) = 6 → (0 ≤ (x3_18 + 1) ∧ (x3_18 + 1) < LL) ∧ wp_X8_heavy (sx (x3_18 + 1)) h_18 (fun r52 => wp_X9_heavy (sx (x3_18 + 1)) h_18 (fun r53 h54 => inR r52 ∧ inR r53 ∧ ((r52 = r53 → wp_L_law_J1010 X18 x3_18 h54) ∧ (¬ r52 = r53 → False))))) ∧ ((band (sx x3_18) 31) = 7 → (0 ≤ (x3_18 + 1) ∧ (x3_18 + 1) < LL) ∧ (0 ≤ (x3_18 + 2) ∧ (x3_18 + 2) < LL) ∧ wp_X8_known (sx (x3_18 + 1)) (sx (x3_18 + 2)) h_18 (fun r60 => wp_X9_known (sx (x3_18 + 1)) (sx (x3_18 + 2)) h_18 (fun r61 h62 => inR r60 ∧ inR r61 ∧ ((r60 = r61 → wp_L_law_J1010 X18 x3_18 h62) ∧ (¬ r60 = r61 → False))))) ∧ ((band (sx x3_18) 31) = 8 → (0 ≤ (x3_18 + 1) ∧ (x3_18 + 1) < LL) ∧ wp_X8_now (sx (x3_18 + 1)) h_18 (fun r67 h68 => wp_X9_now (sx (x3_18 + 1)) h68 (fun r69 h70 => inR r67 ∧ inR r69 ∧ ((r67 = r69 → wp_L_law_J1010 X18 x3_18 h70) ∧ (¬ r67 = r69 → False))))) ∧ ((band (sx x3_18) 31) = 9 → (0 ≤ (x3_18 + 1) ∧ (x3_18 + 1) < LL) ∧ (0 ≤ (x3_18 + 2) ∧ (x3_18 + 2) < LL) ∧ (0 ≤ (x3_18 + 3) ∧ (x3_18 + 3) < LL) ∧ wp_X8_tells (sx (x3_18 + 1)) (sx (x3_18 + 2)) (sx (x3_18 + 3)) h_18 (fun r77 h78 => wp_X9_tells (sx (x3_18 + 1)) (sx (x3_18 + 2)) (sx (x3_18 + 3)) h78 (fun r79 h80 => inR r77 ∧ inR r79 ∧ ((r77 = r79 → wp_L_law_J1010 X18 x3_18 h80) ∧ (¬ r77 = r79 → False))))) ∧ ((band (sx x3_18) 31) = 10 → (0 ≤ (x3_18 + 1) ∧ (x3_18 + 1) < LL) ∧ (0 ≤ (x3_18 + 2) ∧ (x3_18 + 2) < LL) ∧ wp_X8_keeps (sx (x3_18 + 1)) (sx (x3_18 + 2)) h_18 (fun r86 h87 => wp_X9_keeps (sx (x3_18 + 1)) (sx (x3_18 + 2)) h87 (fun r88 h89 => inR r86 ∧ inR r88 ∧ ((r86 = r88 → wp_L_law_J1010 X18 x3_18 h89) ∧ (¬ r86 = r88 → False))))) ∧ ((band (sx x3_18) 31) = 11 → wp_X8_day  h_18 (fun r93 h94 => wp_X9_day  h94 (fun r95 h96 => inR r93 ∧ inR r95 ∧ ((r93 = r95 → wp_L_law_J1010 X18 x3_18 h96) ∧ (¬ r93 = r95 → False))))) ∧ ((band (sx x3_18) 31) = 12 → (0 ≤ (x3_18 + 1) ∧ (x3_18 + 1) < LL) ∧ (0 ≤ (x3_18 + 2) ∧ (x3_18 + 2) < LL) ∧ wp_X8_weighs (sx (x3_18 + 1)) (sx (x3_18 + 2)) h_18 (fun r102 h103 => wp_X9_weighs (sx (x3_18 + 1)) (sx (x3_18 + 2)) h103 (fun r104 h105 => inR r102 ∧ inR r104 ∧ ((r102 = r104 → wp_L_law_J1010 X18 x3_18 h105) ∧ (¬ r102 = r104 → False))))) ∧ ((band (sx x3_18) 31) = 13 → wp_X8_forgets  h_18 (fun r109 h110 => wp_X9_forgets  h110 (fun r111 h112 => inR r109 ∧ inR r111 ∧ ((r109 = r111 → wp_L_law_J1010 X18 x3_18 h112) ∧ (¬ r109 = r111 → False))))) ∧ ((band (sx x3_18) 31) = 14 → wp_X8_undo  h_18 (fun r116 h117 => wp_X9_undo  h117 (fun r118 h119 => inR r116 ∧ inR r118 ∧ ((r116 = r118 → wp_L_law_J1010 X18 x3_18 h119) ∧ (¬ r116 = r118 → False))))) ∧ ((band (sx x3_18) 31) = 15 → (0 ≤ (x3_18 + 1) ∧ (x3_18 + 1) < LL) ∧ (0 ≤ (x3_18 + 2) ∧ (x3_18 + 2) < LL) ∧ wp_X8_beam (sx (x3_18 + 1)) (sx (x3_18 + 2)) h_18 (fun r125 => wp_X9_beam (sx (x3_18 + 1)) (sx (x3_18 + 2)) h_18 (fun r126 h127 => inR r125 ∧ inR r126 ∧ ((r125 = r126 → wp_L_law_J1010 X18 x3_18 h127) ∧ (¬ r125 = r126 → False))))) ∧ ((band (sx x3_18) 31) = 16 → (0 ≤ (x3_18 + 1) ∧ (x3_18 + 1) < LL) ∧ (0 ≤ (x3_18 + 2) ∧ (x3_18 + 2) < LL) ∧ (0 ≤ (x3_18 + 3) ∧ (x3_18 + 3) < LL) ∧ wp_X8_level (sx (x3_18 + 1)) (sx (x3_18 + 2)) (sx (x3_18 + 3)) h_18 (fun r134 h135 => wp_X9_level (sx (x3_18 + 1)) (sx (x3_18 + 2)) (sx (x3_18 + 3)) h135 (fun r136 h137 => inR r134 ∧ inR r136 ∧ ((r134 = r136 → wp_L_law_J1010 X18 x3_18 h137) ∧ (¬ r134 = r136 → False))))) ∧ ((band (sx x3_18) 31) = 17 → (0 ≤ (x3_18 + 1) ∧ (x3_18 + 1) < LL) ∧ (0 ≤ (x3_18 + 2) ∧ (x3_18 + 2) < LL) ∧ wp_X8_when (sx (x3_18 + 1)) (sx (x3_18 + 2)) h_18 (fun r143 => wp_X9_when (sx (x3_18 + 1)) (sx (x3_18 + 2)) h_18 (fun r144 h145 => inR r143 ∧ inR r144 ∧ ((r143 = r144 → wp_L_law_J1010 X18 x3_18 h145) ∧ (¬ r143 = r144 → False))))) ∧ ((band (sx x3_18) 31) = 18 → (0 ≤ (x3_18 + 1) ∧ (x3_18 + 1) < LL) ∧ (0 ≤ (x3_18 + 2) ∧ (x3_18 + 2) < LL) ∧ (0 ≤ (x3_18 + 3) ∧ (x3_18 + 3) < LL) ∧ (0 ≤ (x3_18 + 4) ∧ (x3_18 + 4) < LL) ∧ (0 ≤ (x3_18 + 5) ∧ (x3_18 + 5) < LL) ∧ wp_X8_odds (sx (x3_18 + 1)) (sx (x3_18 + 2)) (sx (x3_18 + 3)) (sx (x3_18 + 4)) (sx (x3_18 + 5)) h_18 (fun r154 => wp_X9_odds (sx (x3_18 + 1)) (sx (x3_18 + 2)) (sx (x3_18 + 3)) (sx (x3_18 + 4)) (sx (x3_18 + 5)) h_18 (fun r155 h156 => inL r154 ∧ inL r155 ∧ (((cmpL r154 r155) = 0 → wp_L_law_J1010 X18 x3_18 h156) ∧ (¬ (cmpL r154 r155) = 0 → False))))) ∧ ((band (sx x3_18) 31) = 19 → (0 ≤ (x3_18 + 1) ∧ (x3_18 + 1) < LL) ∧ (0 ≤ (x3_18 + 2) ∧ (x3_18 + 2) < LL) ∧ wp_X8_brass (sx (x3_18 + 1)) (sx (x3_18 + 2)) h_18 (fun r162 => wp_X9_brass (sx (x3_18 + 1)) (sx (x3_18 + 2)) h_18 (fun r163 h164 => inR r162 ∧ inR r163 ∧ ((r162 = r163 → wp_L_law_J1010 X18 x3_18 h164) ∧ (¬ r162 = r163 → False))))) ∧ ((band (sx x3_18) 31) = 20 → (0 ≤ (x3_18 + 1) ∧ (x3_18 + 1) < LL) ∧ (0 ≤ (x3_18 + 2) ∧ (x3_18 + 2) < LL) ∧ (0 ≤ (x3_18 + 3) ∧ (x3_18 + 3) < LL) ∧ wp_X8_shows (sx (x3_18 + 1)) (sx (x3_18 + 2)) (sx (x3_18 + 3)) h_18 (fun r171 h172 => wp_X9_shows (sx (x3_18 + 1)) (sx (x3_18 + 2)) (sx (x3_18 + 3)) h172 (fun r173 h174 => inR r171 ∧ inR r173 ∧ ((r171 = r173 → wp_L_law_J1010 X18 x3_18 h174) ∧ (¬ r171 = r173 → False))))) ∧ ((band (sx x3_18) 31) = 21 → (0 ≤ (x3_18 + 1) ∧ (x3_18 + 1) < LL) ∧ (0 ≤ (x3_18 + 2) ∧ (x3_18 + 2) < LL) ∧ wp_X8_can (sx (x3_18 + 1)) (sx (x3_18 + 2)) h_18 (fun r180 h181 => wp_X9_can (sx (x3_18 + 1)) (sx (x3_18 + 2)) h181 (fun r182 h183 => inR r180 ∧ inR r182 ∧ ((r180 = r182 → wp_L_law_J1010 X18 x3_18 h183) ∧ (¬ r180 = r182 → False))))) ∧ ((band (sx x3_18) 31) = 22 → (0 ≤ (x3_18 + 1) ∧ (x3_18 + 1) < LL) ∧ (0 ≤ (x3_18 + 2) ∧ (x3_18 + 2) < LL) ∧ wp_X8_saw (sx (x3_18 + 1)) (sx (x3_18 + 2)) h_18 (fun r189 h190 => wp_X9_saw (sx (x3_18 + 1)) (sx (x3_18 + 2)) h190 (fun r191 h192 => inR r189 ∧ inR r191 ∧ ((r189 = r191 → wp_L_law_J1010 X18 x3_18 h192) ∧ (¬ r189 = r191 → False))))) ∧ ((band (sx x3_18) 31) = 23 → (0 ≤ (x3_18 + 1) ∧ (x3_18 + 1) < LL) ∧ (0 ≤ (x3_18 + 2) ∧ (x3_18 + 2) < LL) ∧ wp_X8_laws (sx (x3_18 + 1)) (sx (x3_18 + 2)) h_18 (fun r198 => wp_X9_laws (sx (x3_18 + 1)) (sx (x3_18 + 2)) h_18 (fun r199 h200 => inR r198 ∧ inR r199 ∧ ((r198 = r199 → wp_L_law_J1010 X18 x3_18 h200) ∧ (¬ r198 = r199 → False))))) ∧ ((band (sx x3_18) 31) = 24 → wp_X8_clean  h_18 (fun r204 h205 => wp_X9_clean  h205 (fun r206 h207 => inR r204 ∧ inR r206 ∧ ((r204 = r206 → wp_L_law_J1010 X18 x3_18 h207) ∧ (¬ r204 = r206 → False))))) ∧ ((band (sx x3_18) 31) = 25 → (0 ≤ (x3_18 + 1) ∧ (x3_18 + 1) < LL) ∧ (0 ≤ (x3_18 + 2) ∧ (x3_18 + 2) < LL) ∧ wp_X8_rate (sx (x3_18 + 1)) (sx (x3_18 + 2)) h_18 (fun r213 h214 => wp_X9_rate (sx (x3_18 + 1)) (sx (x3_18 + 2)) h214 (fun r215 h216 => inR r213 ∧ inR r215 ∧ ((r213 = r215 → wp_L_law_J1010 X18 x3_18 h216) ∧ (¬ r213 = r215 → False))))) ∧ ((band (sx x3_18) 31) = 26 → (0 ≤ (x3_18 + 1) ∧ (x3_18 + 1) < LL) ∧ wp_X8_keep (sx (x3_18 + 1)) h_18 (fun r221 h222 => wp_X9_keep (sx (x3_18 + 1)) h222 (fun r223 h224 => inR r221 ∧ inR r223 ∧ ((r221 = r223 → wp_L_law_J1010 X18 x3_18 h224) ∧ (¬ r221 = r223 → False))))) ∧ ((band (sx x3_18) 31) = 27 → (0 ≤ (x3_18 + 1) ∧ (x3_18 + 1) < LL) ∧ wp_X8_back (sx (x3_18 + 1)) h_18 (fun r229 h230 => wp_X9_back (sx (x3_18 + 1)) h230 (fun r231 h232 => inR r229 ∧ inR r231 ∧ ((r229 = r231 → wp_L_law_J1010 X18 x3_18 h232) ∧ (¬ r229 = r231 → False))))) ∧ ((band (sx x3_18) 31) = 28 → (0 ≤ (x3_18 + 1) ∧ (x3_18 + 1) < LL) ∧ wp_X8_count (sx (x3_18 + 1)) h_18 (fun r237 => wp_X9_count (sx (x3_18 + 1)) h_18 (fun r238 h239 => inR r237 ∧ inR r238 ∧ ((r237 = r238 → wp_L_law_J1010 X18 x3_18 h239) ∧ (¬ r237 = r238 → False))))) ∧ ((band (sx x3_18) 31) = 29 → wp_X8_trace  h_18 (fun r243 => wp_X9_trace  h_18 (fun r244 h245 => inL r243 ∧ inL r244 ∧ (((cmpL r243 r244) = 0 → wp_L_law_J1010 X18 x3_18 h245) ∧ (¬ (cmpL r243 r244) = 0 → False))))))))

def wp_L_law (LL : Nat) (sx : Int → Int) (h : aH) : Prop :=
  lp (fun X y => wp_L_law_B18 LL sx X y.1 y.2) (0, h)

set_option maxRecDepth 100000 in
set_option maxHeartbeats 4000000 in
theorem M_L_law {Γ : Gm} {p : Program} {l : Launch} {e : Env} {s : State} {m : MethodId} {below : List Frame} {meth : Method} {c : Code} (a : Ac Γ p s m #[Value.ref Γ.2.2.2.1] meth c RL cL_law 4 (some .boolean)) {LL : Nat} {xs : Nat → Int32} (hLL : LL ≤ 384) (hX : va_X Γ.2.2.2.1 LL xs s s.heap) (hsz : s.heap.size = Γ.2.2.1 + 0) (hbl : Γ.2.2.2.1 < Γ.2.2.1) {sx : Int → Int} (hsx : sx = fun i => (xs i.toNat).toInt) {h : aH} (hw : wp_L_law LL sx h) : OK Γ p l e room_1 s m #[Value.ref Γ.2.2.2.1] below meth c 0 (lw_Z below #[Value.ref Γ.2.2.2.1] s) 16 [some (vR 1000), some (vR 0), some (vR 59), none] [] 80 G78 h := by
  unfold wp_L_law at hw
  refine ok_iconst (pc := 16) a dL_law_16 ?_
  refine ok_sI_n (pc := 17) a [some (vR 1000), some (vR 0), some (vR 59), some (vI 0)] dL_law_17 rfl (by decide) rfl rfl ?_
  refine lp.use (P := fun y => OK Γ p l e room_1 s m #[Value.ref Γ.2.2.2.1] below meth c 0 (lw_Z below #[Value.ref Γ.2.2.2.1] s) 18 [some (vR 1000), some (vR 0), some (vR 59), some (vI y.1)] [] 80 G78 y.2) ?_ (0, h) hw
  clear hw
  intro X18 hX18 y hw
  obtain ⟨x3_18, h_18⟩ := y
  have hw : wp_L_law_B18 LL sx X18 x3_18 h_18 := hw
  unfold wp_L_law_B18 at hw
  try dsimp only
  refine ok_iload_n (pc := 18) a dL_law_18 rfl rfl ?_
  refine ok_aload_n (pc := 19) a dL_law_19 rfl rfl ?_
  refine ok_slen (pc := 20) a dL_law_20 hLL hX hsz hbl ?_
  refine ok_bipush (pc := 21) a dL_law_21 (by decide) ?_
  refine ok_isub (pc := 23) a dL_law_23 ?_
  obtain ⟨hc1, hw⟩ := hw
  obtain ⟨hc2, hw⟩ := hw
  refine ok_icmp_gt (pc := 24) a 1016 dL_law_24 (by decide) hc1 hc2 (fun hd249 => ?_) (fun hd249 => ?_)
  · have hw := hw.1 hd249
    refine ok_iconst (pc := 1016) a dL_law_1016 ?_
    exact ok_lawret (pc := 1017) a dL_law_1017
  · have hw := hw.2 hd249
    refine ok_aload_n (pc := 27) a dL_law_27 rfl rfl ?_
    refine ok_iload_n (pc := 28) a dL_law_28 rfl rfl ?_
    obtain ⟨hc3, hw⟩ := hw
    refine ok_sld (pc := 29) a dL_law_29 hLL hX hsz hbl hsx hc3 ?_
    refine ok_bipush (pc := 30) a dL_law_30 (by decide) ?_
    refine ok_iand (pc := 32) a dL_law_32 ?_
    obtain ⟨hc4, hw⟩ := hw
    have hJ1010 : ∀ (h_1010 : aH), wp_L_law_J1010 X18 x3_18 h_1010 → OK Γ p l e room_1 s m #[Value.ref Γ.2.2.2.1] below meth c 0 (lw_Z below #[Value.ref Γ.2.2.2.1] s) 1010 [some (vR 1000), some (vR 0), some (vR 59), some (vI x3_18)] [] 80 G78 h_1010 := by
      intro h_1010 hw
      unfold wp_L_law_J1010 at hw
      refine ok_inc (pc := 1010) a [some (vR 1000), some (vR 0), some (vR 59), some (vI (x3_18 + 6))] dL_law_1010 rfl (by decide) rfl rfl ?_
      refine ok_goto (pc := 1013) a 18 dL_law_1013 (by decide) ?_
      exact hX18 ((x3_18 + 6), h_1010) hw
    by_cases hd5 : (band (sx x3_18) 31) < 0 ∨ 29 < (band (sx x3_18) 31)
    · have hw := hw.1 hd5
      refine ok_tabOut (pc := 33) a 1010 dL_law_33 hc4 hd5 (by decide) ?_
      exact hJ1010 h_18 hw
    · have hv : (band (sx x3_18) 31) = 0 ∨ (band (sx x3_18) 31) = 1 ∨ (band (sx x3_18) 31) = 2 ∨ (band (sx x3_18) 31) = 3 ∨ (band (sx x3_18) 31) = 4 ∨ (band (sx x3_18) 31) = 5 ∨ (band (sx x3_18) 31) = 6 ∨ (band (sx x3_18) 31) = 7 ∨ (band (sx x3_18) 31) = 8 ∨ (band (sx x3_18) 31) = 9 ∨ (band (sx x3_18) 31) = 10 ∨ (band (sx x3_18) 31) = 11 ∨ (band (sx x3_18) 31) = 12 ∨ (band (sx x3_18) 31) = 13 ∨ (band (sx x3_18) 31) = 14 ∨ (band (sx x3_18) 31) = 15 ∨ (band (sx x3_18) 31) = 16 ∨ (band (sx x3_18) 31) = 17 ∨ (band (sx x3_18) 31) = 18 ∨ (band (sx x3_18) 31) = 19 ∨ (band (sx x3_18) 31) = 20 ∨ (band (sx x3_18) 31) = 21 ∨ (band (sx x3_18) 31) = 22 ∨ (band (sx x3_18) 31) = 23 ∨ (band (sx x3_18) 31) = 24 ∨ (band (sx x3_18) 31) = 25 ∨ (band (sx x3_18) 31) = 26 ∨ (band (sx x3_18) 31) = 27 ∨ (band (sx x3_18) 31) = 28 ∨ (band (sx x3_18) 31) = 29 := by omega
      have hw := hw.2
      rcases hv with hv | hv | hv | hv | hv | hv | hv | hv | hv | hv | hv | hv | hv | hv | hv | hv | hv | hv | hv | hv | hv | hv | hv | hv | hv | hv | hv | hv | hv | hv
      · have hw := hw.1 hv
        refine ok_tabIn (pc := 33) a 168 dL_law_33 hc4 (by omega) (by omega) (by rw [hv]; rfl) (by decide) ?_
        refine ok_aload_n (pc := 168) a dL_law_168 rfl rfl ?_
        refine ok_aload_n (pc := 169) a dL_law_169 rfl rfl ?_
        refine ok_iload_n (pc := 170) a dL_law_170 rfl rfl ?_
        refine ok_iconst (pc := 171) a dL_law_171 ?_
        refine ok_iadd (pc := 172) a dL_law_172 ?_
        obtain ⟨hc6, hw⟩ := hw
        refine ok_sld (pc := 173) a dL_law_173 hLL hX hsz hbl hsx hc6 ?_
        refine ok_GRI (pc := 174) a [(vI (sx (x3_18 + 1)))] [] (M_X8_type (by decide) tcG (sx (x3_18 + 1)) hw) dL_law_174 lkRL_13 rfl (by decide) kq0 (by decide) rfl ⟨by decide, by decide⟩ lawcs (Nat.le_of_ble_eq_true rfl) rfl (fun r7 h8 hw => ?_)
        refine ok_aload_n (pc := 177) a dL_law_177 rfl rfl ?_
        refine ok_aload_n (pc := 178) a dL_law_178 rfl rfl ?_
        refine ok_iload_n (pc := 179) a dL_law_179 rfl rfl ?_
        refine ok_iconst (pc := 180) a dL_law_180 ?_
        refine ok_iadd (pc := 181) a dL_law_181 ?_
        refine ok_sld (pc := 182) a dL_law_182 hLL hX hsz hbl hsx hc6 ?_
        refine ok_GRI (pc := 183) a [(vI (sx (x3_18 + 1)))] [(vI r7)] (M_X9_type (by decide) tmG (sx (x3_18 + 1)) hw) dL_law_183 lkRL_17 rfl (by decide) kq59 (by decide) rfl ⟨by decide, by decide⟩ lawcs (Nat.le_of_ble_eq_true rfl) rfl (fun r9 h10 hw => ?_)
        obtain ⟨hc11, hw⟩ := hw
        obtain ⟨hc12, hw⟩ := hw
        refine ok_icmp_eq (pc := 186) a 1010 dL_law_186 (by decide) hc11 hc12 (fun hd13 => ?_) (fun hd13 => ?_)
        · have hw := hw.1 hd13
          exact hJ1010 h10 hw
        · have hw := hw.2 hd13
          refine ok_iconst (pc := 189) a dL_law_189 ?_
          exact hw.elim
      · have hw := hw.2.1 hv
        refine ok_tabIn (pc := 33) a 191 dL_law_33 hc4 (by omega) (by omega) (by rw [hv]; rfl) (by decide) ?_
        refine ok_aload_n (pc := 191) a dL_law_191 rfl rfl ?_
        refine ok_GRI (pc := 192) a [] [] (M_X8_clear (by decide) tcG  hw) dL_law_192 lkRL_18 rfl (by decide) kq0 (by decide) rfl ⟨by decide, by decide⟩ lawcs (Nat.le_of_ble_eq_true rfl) rfl (fun r14 h15 hw => ?_)
        refine ok_aload_n (pc := 195) a dL_law_195 rfl rfl ?_
        refine ok_GRI (pc := 196) a [] [(vI r14)] (M_X9_clear (by decide) tmG  hw) dL_law_196 lkRL_22 rfl (by decide) kq59 (by decide) rfl ⟨by decide, by decide⟩ lawcs (Nat.le_of_ble_eq_true rfl) rfl (fun r16 h17 hw => ?_)
        obtain ⟨hc18, hw⟩ := hw
        obtain ⟨hc19, hw⟩ := hw
        refine ok_icmp_eq (pc := 199) a 1010 dL_law_199 (by decide) hc18 hc19 (fun hd20 => ?_) (fun hd20 => ?_)
        · have hw := hw.1 hd20
          exact hJ1010 h17 hw
        · have hw := hw.2 hd20
          refine ok_iconst (pc := 202) a dL_law_202 ?_
          exact hw.elim
      · have hw := hw.2.2.1 hv
        refine ok_tabIn (pc := 33) a 204 dL_law_33 hc4 (by omega) (by omega) (by rw [hv]; rfl) (by decide) ?_
        refine ok_aload_n (pc := 204) a dL_law_204 rfl rfl ?_
        refine ok_GRI (pc := 205) a [] [] (M_X8_shop (by decide) tcG  hw) dL_law_205 lkRL_23 rfl (by decide) kq0 (by decide) rfl ⟨by decide, by decide⟩ lawcs (Nat.le_of_ble_eq_true rfl) rfl (fun r21 h22 hw => ?_)
        refine ok_aload_n (pc := 208) a dL_law_208 rfl rfl ?_
        refine ok_GRI (pc := 209) a [] [(vI r21)] (M_X9_shop (by decide) tmG  hw) dL_law_209 lkRL_26 rfl (by decide) kq59 (by decide) rfl ⟨by decide, by decide⟩ lawcs (Nat.le_of_ble_eq_true rfl) rfl (fun r23 h24 hw => ?_)
        obtain ⟨hc25, hw⟩ := hw
        obtain ⟨hc26, hw⟩ := hw
        refine ok_icmp_eq (pc := 212) a 1010 dL_law_212 (by decide) hc25 hc26 (fun hd27 => ?_) (fun hd27 => ?_)
        · have hw := hw.1 hd27
          exact hJ1010 h24 hw
        · have hw := hw.2 hd27
          refine ok_iconst (pc := 215) a dL_law_215 ?_
          exact hw.elim
      · have hw := hw.2.2.2.1 hv
        refine ok_tabIn (pc := 33) a 217 dL_law_33 hc4 (by omega) (by omega) (by rw [hv]; rfl) (by decide) ?_
        refine ok_aload_n (pc := 217) a dL_law_217 rfl rfl ?_
        refine ok_aload_n (pc := 218) a dL_law_218 rfl rfl ?_
        refine ok_iload_n (pc := 219) a dL_law_219 rfl rfl ?_
        refine ok_iconst (pc := 220) a dL_law_220 ?_
        refine ok_iadd (pc := 221) a dL_law_221 ?_
        obtain ⟨hc28, hw⟩ := hw
        refine ok_sld (pc := 222) a dL_law_222 hLL hX hsz hbl hsx hc28 ?_
        refine ok_aload_n (pc := 223) a dL_law_223 rfl rfl ?_
        refine ok_iload_n (pc := 224) a dL_law_224 rfl rfl ?_
        refine ok_iconst (pc := 225) a dL_law_225 ?_
        refine ok_iadd (pc := 226) a dL_law_226 ?_
        obtain ⟨hc29, hw⟩ := hw
        refine ok_sld (pc := 227) a dL_law_227 hLL hX hsz hbl hsx hc29 ?_
        refine ok_GPI (pc := 228) a [(vI (sx (x3_18 + 1))), (vI (sx (x3_18 + 2)))] [] (M_X8_holds (by decide) tcG (sx (x3_18 + 1)) (sx (x3_18 + 2)) hw) dL_law_228 lkRL_27 rfl (by decide) kq0 (by decide) rfl ⟨by decide, by decide⟩ lawcs (Nat.le_of_ble_eq_true rfl) rfl (fun r30 hw => ?_)
        refine ok_aload_n (pc := 231) a dL_law_231 rfl rfl ?_
        refine ok_aload_n (pc := 232) a dL_law_232 rfl rfl ?_
        refine ok_iload_n (pc := 233) a dL_law_233 rfl rfl ?_
        refine ok_iconst (pc := 234) a dL_law_234 ?_
        refine ok_iadd (pc := 235) a dL_law_235 ?_
        refine ok_sld (pc := 236) a dL_law_236 hLL hX hsz hbl hsx hc28 ?_
        refine ok_aload_n (pc := 237) a dL_law_237 rfl rfl ?_
        refine ok_iload_n (pc := 238) a dL_law_238 rfl rfl ?_
        refine ok_iconst (pc := 239) a dL_law_239 ?_
        refine ok_iadd (pc := 240) a dL_law_240 ?_
        refine ok_sld (pc := 241) a dL_law_241 hLL hX hsz hbl hsx hc29 ?_
        refine ok_GRI (pc := 242) a [(vI (sx (x3_18 + 1))), (vI (sx (x3_18 + 2)))] [(vI r30)] (M_X9_holds (by decide) tmG (sx (x3_18 + 1)) (sx (x3_18 + 2)) hw) dL_law_242 lkRL_31 rfl (by decide) kq59 (by decide) rfl ⟨by decide, by decide⟩ lawcs (Nat.le_of_ble_eq_true rfl) rfl (fun r31 h32 hw => ?_)
        obtain ⟨hc33, hw⟩ := hw
        obtain ⟨hc34, hw⟩ := hw
        refine ok_icmp_eq (pc := 245) a 1010 dL_law_245 (by decide) hc33 hc34 (fun hd35 => ?_) (fun hd35 => ?_)
        · have hw := hw.1 hd35
          exact hJ1010 h32 hw
        · have hw := hw.2 hd35
          refine ok_iconst (pc := 248) a dL_law_248 ?_
          exact hw.elim
      · have hw := hw.2.2.2.2.1 hv
        refine ok_tabIn (pc := 33) a 250 dL_law_33 hc4 (by omega) (by omega) (by rw [hv]; rfl) (by decide) ?_
        refine ok_aload_n (pc := 250) a dL_law_250 rfl rfl ?_
        refine ok_aload_n (pc := 251) a dL_law_251 rfl rfl ?_
        refine ok_iload_n (pc := 252) a dL_law_252 rfl rfl ?_
        refine ok_iconst (pc := 253) a dL_law_253 ?_
        refine ok_iadd (pc := 254) a dL_law_254 ?_
        obtain ⟨hc36, hw⟩ := hw
        refine ok_sld (pc := 255) a dL_law_255 hLL hX hsz hbl hsx hc36 ?_
        refine ok_aload_n (pc := 256) a dL_law_256 rfl rfl ?_
        refine ok_iload_n (pc := 257) a dL_law_257 rfl rfl ?_
        refine ok_iconst (pc := 258) a dL_law_258 ?_
        refine ok_iadd (pc := 259) a dL_law_259 ?_
        obtain ⟨hc37, hw⟩ := hw
        refine ok_sld (pc := 260) a dL_law_260 hLL hX hsz hbl hsx hc37 ?_
        refine ok_GPI (pc := 261) a [(vI (sx (x3_18 + 1))), (vI (sx (x3_18 + 2)))] [] (M_X8_grows (by decide) tcG (sx (x3_18 + 1)) (sx (x3_18 + 2)) hw) dL_law_261 lkRL_32 rfl (by decide) kq0 (by decide) rfl ⟨by decide, by decide⟩ lawcs (Nat.le_of_ble_eq_true rfl) rfl (fun r38 hw => ?_)
        refine ok_aload_n (pc := 264) a dL_law_264 rfl rfl ?_
        refine ok_aload_n (pc := 265) a dL_law_265 rfl rfl ?_
        refine ok_iload_n (pc := 266) a dL_law_266 rfl rfl ?_
        refine ok_iconst (pc := 267) a dL_law_267 ?_
        refine ok_iadd (pc := 268) a dL_law_268 ?_
        refine ok_sld (pc := 269) a dL_law_269 hLL hX hsz hbl hsx hc36 ?_
        refine ok_aload_n (pc := 270) a dL_law_270 rfl rfl ?_
        refine ok_iload_n (pc := 271) a dL_law_271 rfl rfl ?_
        refine ok_iconst (pc := 272) a dL_law_272 ?_
        refine ok_iadd (pc := 273) a dL_law_273 ?_
        refine ok_sld (pc := 274) a dL_law_274 hLL hX hsz hbl hsx hc37 ?_
        refine ok_GRI (pc := 275) a [(vI (sx (x3_18 + 1))), (vI (sx (x3_18 + 2)))] [(vI r38)] (M_X9_grows (by decide) tmG (sx (x3_18 + 1)) (sx (x3_18 + 2)) hw) dL_law_275 lkRL_35 rfl (by decide) kq59 (by decide) rfl ⟨by decide, by decide⟩ lawcs (Nat.le_of_ble_eq_true rfl) rfl (fun r39 h40 hw => ?_)
        obtain ⟨hc41, hw⟩ := hw
        obtain ⟨hc42, hw⟩ := hw
        refine ok_icmp_eq (pc := 278) a 1010 dL_law_278 (by decide) hc41 hc42 (fun hd43 => ?_) (fun hd43 => ?_)
        · have hw := hw.1 hd43
          exact hJ1010 h40 hw
        · have hw := hw.2 hd43
          refine ok_iconst (pc := 281) a dL_law_281 ?_
          exact hw.elim
      · have hw := hw.2.2.2.2.2.1 hv
        refine ok_tabIn (pc := 33) a 283 dL_law_33 hc4 (by omega) (by omega) (by rw [hv]; rfl) (by decide) ?_
        refine ok_aload_n (pc := 283) a dL_law_283 rfl rfl ?_
        refine ok_aload_n (pc := 284) a dL_law_284 rfl rfl ?_
        refine ok_iload_n (pc := 285) a dL_law_285 rfl rfl ?_
        refine ok_iconst (pc := 286) a dL_law_286 ?_
        refine ok_iadd (pc := 287) a dL_law_287 ?_
        obtain ⟨hc44, hw⟩ := hw
        refine ok_sld (pc := 288) a dL_law_288 hLL hX hsz hbl hsx hc44 ?_
        refine ok_GPI (pc := 289) a [(vI (sx (x3_18 + 1)))] [] (M_X8_weight (by decide) tcG (sx (x3_18 + 1)) hw) dL_law_289 lkRL_36 rfl (by decide) kq0 (by decide) rfl ⟨by decide, by decide⟩ lawcs (Nat.le_of_ble_eq_true rfl) rfl (fun r45 hw => ?_)
        refine ok_aload_n (pc := 292) a dL_law_292 rfl rfl ?_
        refine ok_aload_n (pc := 293) a dL_law_293 rfl rfl ?_
        refine ok_iload_n (pc := 294) a dL_law_294 rfl rfl ?_
        refine ok_iconst (pc := 295) a dL_law_295 ?_
        refine ok_iadd (pc := 296) a dL_law_296 ?_
        refine ok_sld (pc := 297) a dL_law_297 hLL hX hsz hbl hsx hc44 ?_
        refine ok_GRI (pc := 298) a [(vI (sx (x3_18 + 1)))] [(vI r45)] (M_X9_weight (by decide) tmG (sx (x3_18 + 1)) hw) dL_law_298 lkRL_39 rfl (by decide) kq59 (by decide) rfl ⟨by decide, by decide⟩ lawcs (Nat.le_of_ble_eq_true rfl) rfl (fun r46 h47 hw => ?_)
        obtain ⟨hc48, hw⟩ := hw
        obtain ⟨hc49, hw⟩ := hw
        refine ok_icmp_eq (pc := 301) a 1010 dL_law_301 (by decide) hc48 hc49 (fun hd50 => ?_) (fun hd50 => ?_)
        · have hw := hw.1 hd50
          exact hJ1010 h47 hw
        · have hw := hw.2 hd50
          refine ok_iconst (pc := 304) a dL_law_304 ?_
          exact hw.elim
      · have hw := hw.2.2.2.2.2.2.1 hv
        refine ok_tabIn (pc := 33) a 306 dL_law_33 hc4 (by omega) (by omega) (by rw [hv]; rfl) (by decide) ?_
        refine ok_aload_n (pc := 306) a dL_law_306 rfl rfl ?_
        refine ok_aload_n (pc := 307) a dL_law_307 rfl rfl ?_
        refine ok_iload_n (pc := 308) a dL_law_308 rfl rfl ?_
        refine ok_iconst (pc := 309) a dL_law_309 ?_
        refine ok_iadd (pc := 310) a dL_law_310 ?_
        obtain ⟨hc51, hw⟩ := hw
        refine ok_sld (pc := 311) a dL_law_311 hLL hX hsz hbl hsx hc51 ?_
        refine ok_GPI (pc := 312) a [(vI (sx (x3_18 + 1)))] [] (M_X8_heavy (by decide) tcG (sx (x3_18 + 1)) hw) dL_law_312 lkRL_40 rfl (by decide) kq0 (by decide) rfl ⟨by decide, by decide⟩ lawcs (Nat.le_of_ble_eq_true rfl) rfl (fun r52 hw => ?_)
        refine ok_aload_n (pc := 315) a dL_law_315 rfl rfl ?_
        refine ok_aload_n (pc := 316) a dL_law_316 rfl rfl ?_
        refine ok_iload_n (pc := 317) a dL_law_317 rfl rfl ?_
        refine ok_iconst (pc := 318) a dL_law_318 ?_
        refine ok_iadd (pc := 319) a dL_law_319 ?_
        refine ok_sld (pc := 320) a dL_law_320 hLL hX hsz hbl hsx hc51 ?_
        refine ok_GRI (pc := 321) a [(vI (sx (x3_18 + 1)))] [(vI r52)] (M_X9_heavy (by decide) tmG (sx (x3_18 + 1)) hw) dL_law_321 lkRL_43 rfl (by decide) kq59 (by decide) rfl ⟨by decide, by decide⟩ lawcs (Nat.le_of_ble_eq_true rfl) rfl (fun r53 h54 hw => ?_)
        obtain ⟨hc55, hw⟩ := hw
        obtain ⟨hc56, hw⟩ := hw
        refine ok_icmp_eq (pc := 324) a 1010 dL_law_324 (by decide) hc55 hc56 (fun hd57 => ?_) (fun hd57 => ?_)
        · have hw := hw.1 hd57
          exact hJ1010 h54 hw
        · have hw := hw.2 hd57
          refine ok_iconst (pc := 327) a dL_law_327 ?_
          exact hw.elim
      · have hw := hw.2.2.2.2.2.2.2.1 hv
        refine ok_tabIn (pc := 33) a 329 dL_law_33 hc4 (by omega) (by omega) (by rw [hv]; rfl) (by decide) ?_
        refine ok_aload_n (pc := 329) a dL_law_329 rfl rfl ?_
        refine ok_aload_n (pc := 330) a dL_law_330 rfl rfl ?_
        refine ok_iload_n (pc := 331) a dL_law_331 rfl rfl ?_
        refine ok_iconst (pc := 332) a dL_law_332 ?_
        refine ok_iadd (pc := 333) a dL_law_333 ?_
        obtain ⟨hc58, hw⟩ := hw
        refine ok_sld (pc := 334) a dL_law_334 hLL hX hsz hbl hsx hc58 ?_
        refine ok_aload_n (pc := 335) a dL_law_335 rfl rfl ?_
        refine ok_iload_n (pc := 336) a dL_law_336 rfl rfl ?_
        refine ok_iconst (pc := 337) a dL_law_337 ?_
        refine ok_iadd (pc := 338) a dL_law_338 ?_
        obtain ⟨hc59, hw⟩ := hw
        refine ok_sld (pc := 339) a dL_law_339 hLL hX hsz hbl hsx hc59 ?_
        refine ok_GPI (pc := 340) a [(vI (sx (x3_18 + 1))), (vI (sx (x3_18 + 2)))] [] (M_X8_known (by decide) tcG (sx (x3_18 + 1)) (sx (x3_18 + 2)) hw) dL_law_340 lkRL_44 rfl (by decide) kq0 (by decide) rfl ⟨by decide, by decide⟩ lawcs (Nat.le_of_ble_eq_true rfl) rfl (fun r60 hw => ?_)
        refine ok_aload_n (pc := 343) a dL_law_343 rfl rfl ?_
        refine ok_aload_n (pc := 344) a dL_law_344 rfl rfl ?_
        refine ok_iload_n (pc := 345) a dL_law_345 rfl rfl ?_
        refine ok_iconst (pc := 346) a dL_law_346 ?_
        refine ok_iadd (pc := 347) a dL_law_347 ?_
        refine ok_sld (pc := 348) a dL_law_348 hLL hX hsz hbl hsx hc58 ?_
        refine ok_aload_n (pc := 349) a dL_law_349 rfl rfl ?_
        refine ok_iload_n (pc := 350) a dL_law_350 rfl rfl ?_
        refine ok_iconst (pc := 351) a dL_law_351 ?_
        refine ok_iadd (pc := 352) a dL_law_352 ?_
        refine ok_sld (pc := 353) a dL_law_353 hLL hX hsz hbl hsx hc59 ?_
        refine ok_GRI (pc := 354) a [(vI (sx (x3_18 + 1))), (vI (sx (x3_18 + 2)))] [(vI r60)] (M_X9_known (by decide) tmG (sx (x3_18 + 1)) (sx (x3_18 + 2)) hw) dL_law_354 lkRL_47 rfl (by decide) kq59 (by decide) rfl ⟨by decide, by decide⟩ lawcs (Nat.le_of_ble_eq_true rfl) rfl (fun r61 h62 hw => ?_)
        obtain ⟨hc63, hw⟩ := hw
        obtain ⟨hc64, hw⟩ := hw
        refine ok_icmp_eq (pc := 357) a 1010 dL_law_357 (by decide) hc63 hc64 (fun hd65 => ?_) (fun hd65 => ?_)
        · have hw := hw.1 hd65
          exact hJ1010 h62 hw
        · have hw := hw.2 hd65
          refine ok_iconst (pc := 360) a dL_law_360 ?_
          exact hw.elim
      · have hw := hw.2.2.2.2.2.2.2.2.1 hv
        refine ok_tabIn (pc := 33) a 362 dL_law_33 hc4 (by omega) (by omega) (by rw [hv]; rfl) (by decide) ?_
        refine ok_aload_n (pc := 362) a dL_law_362 rfl rfl ?_
        refine ok_aload_n (pc := 363) a dL_law_363 rfl rfl ?_
        refine ok_iload_n (pc := 364) a dL_law_364 rfl rfl ?_
        refine ok_iconst (pc := 365) a dL_law_365 ?_
        refine ok_iadd (pc := 366) a dL_law_366 ?_
        obtain ⟨hc66, hw⟩ := hw
        refine ok_sld (pc := 367) a dL_law_367 hLL hX hsz hbl hsx hc66 ?_
        refine ok_GRI (pc := 368) a [(vI (sx (x3_18 + 1)))] [] (M_X8_now (by decide) tcG (sx (x3_18 + 1)) hw) dL_law_368 lkRL_48 rfl (by decide) kq0 (by decide) rfl ⟨by decide, by decide⟩ lawcs (Nat.le_of_ble_eq_true rfl) rfl (fun r67 h68 hw => ?_)
        refine ok_aload_n (pc := 371) a dL_law_371 rfl rfl ?_
        refine ok_aload_n (pc := 372) a dL_law_372 rfl rfl ?_
        refine ok_iload_n (pc := 373) a dL_law_373 rfl rfl ?_
        refine ok_iconst (pc := 374) a dL_law_374 ?_
        refine ok_iadd (pc := 375) a dL_law_375 ?_
        refine ok_sld (pc := 376) a dL_law_376 hLL hX hsz hbl hsx hc66 ?_
        refine ok_GRI (pc := 377) a [(vI (sx (x3_18 + 1)))] [(vI r67)] (M_X9_now (by decide) tmG (sx (x3_18 + 1)) hw) dL_law_377 lkRL_51 rfl (by decide) kq59 (by decide) rfl ⟨by decide, by decide⟩ lawcs (Nat.le_of_ble_eq_true rfl) rfl (fun r69 h70 hw => ?_)
        obtain ⟨hc71, hw⟩ := hw
        obtain ⟨hc72, hw⟩ := hw
        refine ok_icmp_eq (pc := 380) a 1010 dL_law_380 (by decide) hc71 hc72 (fun hd73 => ?_) (fun hd73 => ?_)
        · have hw := hw.1 hd73
          exact hJ1010 h70 hw
        · have hw := hw.2 hd73
          refine ok_iconst (pc := 383) a dL_law_383 ?_
          exact hw.elim
      · have hw := hw.2.2.2.2.2.2.2.2.2.1 hv
        refine ok_tabIn (pc := 33) a 385 dL_law_33 hc4 (by omega) (by omega) (by rw [hv]; rfl) (by decide) ?_
        refine ok_aload_n (pc := 385) a dL_law_385 rfl rfl ?_
        refine ok_aload_n (pc := 386) a dL_law_386 rfl rfl ?_
        refine ok_iload_n (pc := 387) a dL_law_387 rfl rfl ?_
        refine ok_iconst (pc := 388) a dL_law_388 ?_
        refine ok_iadd (pc := 389) a dL_law_389 ?_
        obtain ⟨hc74, hw⟩ := hw
        refine ok_sld (pc := 390) a dL_law_390 hLL hX hsz hbl hsx hc74 ?_
        refine ok_aload_n (pc := 391) a dL_law_391 rfl rfl ?_
        refine ok_iload_n (pc := 392) a dL_law_392 rfl rfl ?_
        refine ok_iconst (pc := 393) a dL_law_393 ?_
        refine ok_iadd (pc := 394) a dL_law_394 ?_
        obtain ⟨hc75, hw⟩ := hw
        refine ok_sld (pc := 395) a dL_law_395 hLL hX hsz hbl hsx hc75 ?_
        refine ok_aload_n (pc := 396) a dL_law_396 rfl rfl ?_
        refine ok_iload_n (pc := 397) a dL_law_397 rfl rfl ?_
        refine ok_iconst (pc := 398) a dL_law_398 ?_
        refine ok_iadd (pc := 399) a dL_law_399 ?_
        obtain ⟨hc76, hw⟩ := hw
        refine ok_sld (pc := 400) a dL_law_400 hLL hX hsz hbl hsx hc76 ?_
        refine ok_GRI (pc := 401) a [(vI (sx (x3_18 + 1))), (vI (sx (x3_18 + 2))), (vI (sx (x3_18 + 3)))] [] (M_X8_tells (by decide) tcG (sx (x3_18 + 1)) (sx (x3_18 + 2)) (sx (x3_18 + 3)) hw) dL_law_401 lkRL_52 rfl (by decide) kq0 (by decide) rfl ⟨by decide, by decide⟩ lawcs (Nat.le_of_ble_eq_true rfl) rfl (fun r77 h78 hw => ?_)
        refine ok_aload_n (pc := 404) a dL_law_404 rfl rfl ?_
        refine ok_aload_n (pc := 405) a dL_law_405 rfl rfl ?_
        refine ok_iload_n (pc := 406) a dL_law_406 rfl rfl ?_
        refine ok_iconst (pc := 407) a dL_law_407 ?_
        refine ok_iadd (pc := 408) a dL_law_408 ?_
        refine ok_sld (pc := 409) a dL_law_409 hLL hX hsz hbl hsx hc74 ?_
        refine ok_aload_n (pc := 410) a dL_law_410 rfl rfl ?_
        refine ok_iload_n (pc := 411) a dL_law_411 rfl rfl ?_
        refine ok_iconst (pc := 412) a dL_law_412 ?_
        refine ok_iadd (pc := 413) a dL_law_413 ?_
        refine ok_sld (pc := 414) a dL_law_414 hLL hX hsz hbl hsx hc75 ?_
        refine ok_aload_n (pc := 415) a dL_law_415 rfl rfl ?_
        refine ok_iload_n (pc := 416) a dL_law_416 rfl rfl ?_
        refine ok_iconst (pc := 417) a dL_law_417 ?_
        refine ok_iadd (pc := 418) a dL_law_418 ?_
        refine ok_sld (pc := 419) a dL_law_419 hLL hX hsz hbl hsx hc76 ?_
        refine ok_GRI (pc := 420) a [(vI (sx (x3_18 + 1))), (vI (sx (x3_18 + 2))), (vI (sx (x3_18 + 3)))] [(vI r77)] (M_X9_tells (by decide) tmG (sx (x3_18 + 1)) (sx (x3_18 + 2)) (sx (x3_18 + 3)) hw) dL_law_420 lkRL_56 rfl (by decide) kq59 (by decide) rfl ⟨by decide, by decide⟩ lawcs (Nat.le_of_ble_eq_true rfl) rfl (fun r79 h80 hw => ?_)
        obtain ⟨hc81, hw⟩ := hw
        obtain ⟨hc82, hw⟩ := hw
        refine ok_icmp_eq (pc := 423) a 1010 dL_law_423 (by decide) hc81 hc82 (fun hd83 => ?_) (fun hd83 => ?_)
        · have hw := hw.1 hd83
          exact hJ1010 h80 hw
        · have hw := hw.2 hd83
          refine ok_iconst (pc := 426) a dL_law_426 ?_
          exact hw.elim
      · have hw := hw.2.2.2.2.2.2.2.2.2.2.1 hv
        refine ok_tabIn (pc := 33) a 428 dL_law_33 hc4 (by omega) (by omega) (by rw [hv]; rfl) (by decide) ?_
        refine ok_aload_n (pc := 428) a dL_law_428 rfl rfl ?_
        refine ok_aload_n (pc := 429) a dL_law_429 rfl rfl ?_
        refine ok_iload_n (pc := 430) a dL_law_430 rfl rfl ?_
        refine ok_iconst (pc := 431) a dL_law_431 ?_
        refine ok_iadd (pc := 432) a dL_law_432 ?_
        obtain ⟨hc84, hw⟩ := hw
        refine ok_sld (pc := 433) a dL_law_433 hLL hX hsz hbl hsx hc84 ?_
        refine ok_aload_n (pc := 434) a dL_law_434 rfl rfl ?_
        refine ok_iload_n (pc := 435) a dL_law_435 rfl rfl ?_
        refine ok_iconst (pc := 436) a dL_law_436 ?_
        refine ok_iadd (pc := 437) a dL_law_437 ?_
        obtain ⟨hc85, hw⟩ := hw
        refine ok_sld (pc := 438) a dL_law_438 hLL hX hsz hbl hsx hc85 ?_
        refine ok_GRI (pc := 439) a [(vI (sx (x3_18 + 1))), (vI (sx (x3_18 + 2)))] [] (M_X8_keeps (by decide) tcG (sx (x3_18 + 1)) (sx (x3_18 + 2)) hw) dL_law_439 lkRL_57 rfl (by decide) kq0 (by decide) rfl ⟨by decide, by decide⟩ lawcs (Nat.le_of_ble_eq_true rfl) rfl (fun r86 h87 hw => ?_)
        refine ok_aload_n (pc := 442) a dL_law_442 rfl rfl ?_
        refine ok_aload_n (pc := 443) a dL_law_443 rfl rfl ?_
        refine ok_iload_n (pc := 444) a dL_law_444 rfl rfl ?_
        refine ok_iconst (pc := 445) a dL_law_445 ?_
        refine ok_iadd (pc := 446) a dL_law_446 ?_
        refine ok_sld (pc := 447) a dL_law_447 hLL hX hsz hbl hsx hc84 ?_
        refine ok_aload_n (pc := 448) a dL_law_448 rfl rfl ?_
        refine ok_iload_n (pc := 449) a dL_law_449 rfl rfl ?_
        refine ok_iconst (pc := 450) a dL_law_450 ?_
        refine ok_iadd (pc := 451) a dL_law_451 ?_
        refine ok_sld (pc := 452) a dL_law_452 hLL hX hsz hbl hsx hc85 ?_
        refine ok_GRI (pc := 453) a [(vI (sx (x3_18 + 1))), (vI (sx (x3_18 + 2)))] [(vI r86)] (M_X9_keeps (by decide) tmG (sx (x3_18 + 1)) (sx (x3_18 + 2)) hw) dL_law_453 lkRL_60 rfl (by decide) kq59 (by decide) rfl ⟨by decide, by decide⟩ lawcs (Nat.le_of_ble_eq_true rfl) rfl (fun r88 h89 hw => ?_)
        obtain ⟨hc90, hw⟩ := hw
        obtain ⟨hc91, hw⟩ := hw
        refine ok_icmp_eq (pc := 456) a 1010 dL_law_456 (by decide) hc90 hc91 (fun hd92 => ?_) (fun hd92 => ?_)
        · have hw := hw.1 hd92
          exact hJ1010 h89 hw
        · have hw := hw.2 hd92
          refine ok_iconst (pc := 459) a dL_law_459 ?_
          exact hw.elim
      · have hw := hw.2.2.2.2.2.2.2.2.2.2.2.1 hv
        refine ok_tabIn (pc := 33) a 461 dL_law_33 hc4 (by omega) (by omega) (by rw [hv]; rfl) (by decide) ?_
        refine ok_aload_n (pc := 461) a dL_law_461 rfl rfl ?_
        refine ok_GRI (pc := 462) a [] [] (M_X8_day (by decide) tcG  hw) dL_law_462 lkRL_61 rfl (by decide) kq0 (by decide) rfl ⟨by decide, by decide⟩ lawcs (Nat.le_of_ble_eq_true rfl) rfl (fun r93 h94 hw => ?_)
        refine ok_aload_n (pc := 465) a dL_law_465 rfl rfl ?_
        refine ok_GRI (pc := 466) a [] [(vI r93)] (M_X9_day (by decide) tmG  hw) dL_law_466 lkRL_64 rfl (by decide) kq59 (by decide) rfl ⟨by decide, by decide⟩ lawcs (Nat.le_of_ble_eq_true rfl) rfl (fun r95 h96 hw => ?_)
        obtain ⟨hc97, hw⟩ := hw
        obtain ⟨hc98, hw⟩ := hw
        refine ok_icmp_eq (pc := 469) a 1010 dL_law_469 (by decide) hc97 hc98 (fun hd99 => ?_) (fun hd99 => ?_)
        · have hw := hw.1 hd99
          exact hJ1010 h96 hw
        · have hw := hw.2 hd99
          refine ok_iconst (pc := 472) a dL_law_472 ?_
          exact hw.elim
      · have hw := hw.2.2.2.2.2.2.2.2.2.2.2.2.1 hv
        refine ok_tabIn (pc := 33) a 474 dL_law_33 hc4 (by omega) (by omega) (by rw [hv]; rfl) (by decide) ?_
        refine ok_aload_n (pc := 474) a dL_law_474 rfl rfl ?_
        refine ok_aload_n (pc := 475) a dL_law_475 rfl rfl ?_
        refine ok_iload_n (pc := 476) a dL_law_476 rfl rfl ?_
        refine ok_iconst (pc := 477) a dL_law_477 ?_
        refine ok_iadd (pc := 478) a dL_law_478 ?_
        obtain ⟨hc100, hw⟩ := hw
        refine ok_sld (pc := 479) a dL_law_479 hLL hX hsz hbl hsx hc100 ?_
        refine ok_aload_n (pc := 480) a dL_law_480 rfl rfl ?_
        refine ok_iload_n (pc := 481) a dL_law_481 rfl rfl ?_
        refine ok_iconst (pc := 482) a dL_law_482 ?_
        refine ok_iadd (pc := 483) a dL_law_483 ?_
        obtain ⟨hc101, hw⟩ := hw
        refine ok_sld (pc := 484) a dL_law_484 hLL hX hsz hbl hsx hc101 ?_
        refine ok_GRI (pc := 485) a [(vI (sx (x3_18 + 1))), (vI (sx (x3_18 + 2)))] [] (M_X8_weighs (by decide) tcG (sx (x3_18 + 1)) (sx (x3_18 + 2)) hw) dL_law_485 lkRL_65 rfl (by decide) kq0 (by decide) rfl ⟨by decide, by decide⟩ lawcs (Nat.le_of_ble_eq_true rfl) rfl (fun r102 h103 hw => ?_)
        refine ok_aload_n (pc := 488) a dL_law_488 rfl rfl ?_
        refine ok_aload_n (pc := 489) a dL_law_489 rfl rfl ?_
        refine ok_iload_n (pc := 490) a dL_law_490 rfl rfl ?_
        refine ok_iconst (pc := 491) a dL_law_491 ?_
        refine ok_iadd (pc := 492) a dL_law_492 ?_
        refine ok_sld (pc := 493) a dL_law_493 hLL hX hsz hbl hsx hc100 ?_
        refine ok_aload_n (pc := 494) a dL_law_494 rfl rfl ?_
        refine ok_iload_n (pc := 495) a dL_law_495 rfl rfl ?_
        refine ok_iconst (pc := 496) a dL_law_496 ?_
        refine ok_iadd (pc := 497) a dL_law_497 ?_
        refine ok_sld (pc := 498) a dL_law_498 hLL hX hsz hbl hsx hc101 ?_
        refine ok_GRI (pc := 499) a [(vI (sx (x3_18 + 1))), (vI (sx (x3_18 + 2)))] [(vI r102)] (M_X9_weighs (by decide) tmG (sx (x3_18 + 1)) (sx (x3_18 + 2)) hw) dL_law_499 lkRL_68 rfl (by decide) kq59 (by decide) rfl ⟨by decide, by decide⟩ lawcs (Nat.le_of_ble_eq_true rfl) rfl (fun r104 h105 hw => ?_)
        obtain ⟨hc106, hw⟩ := hw
        obtain ⟨hc107, hw⟩ := hw
        refine ok_icmp_eq (pc := 502) a 1010 dL_law_502 (by decide) hc106 hc107 (fun hd108 => ?_) (fun hd108 => ?_)
        · have hw := hw.1 hd108
          exact hJ1010 h105 hw
        · have hw := hw.2 hd108
          refine ok_iconst (pc := 505) a dL_law_505 ?_
          exact hw.elim
      · have hw := hw.2.2.2.2.2.2.2.2.2.2.2.2.2.1 hv
        refine ok_tabIn (pc := 33) a 507 dL_law_33 hc4 (by omega) (by omega) (by rw [hv]; rfl) (by decide) ?_
        refine ok_aload_n (pc := 507) a dL_law_507 rfl rfl ?_
        refine ok_GRI (pc := 508) a [] [] (M_X8_forgets (by decide) tcG  hw) dL_law_508 lkRL_69 rfl (by decide) kq0 (by decide) rfl ⟨by decide, by decide⟩ lawcs (Nat.le_of_ble_eq_true rfl) rfl (fun r109 h110 hw => ?_)
        refine ok_aload_n (pc := 511) a dL_law_511 rfl rfl ?_
        refine ok_GRI (pc := 512) a [] [(vI r109)] (M_X9_forgets (by decide) tmG  hw) dL_law_512 lkRL_72 rfl (by decide) kq59 (by decide) rfl ⟨by decide, by decide⟩ lawcs (Nat.le_of_ble_eq_true rfl) rfl (fun r111 h112 hw => ?_)
        obtain ⟨hc113, hw⟩ := hw
        obtain ⟨hc114, hw⟩ := hw
        refine ok_icmp_eq (pc := 515) a 1010 dL_law_515 (by decide) hc113 hc114 (fun hd115 => ?_) (fun hd115 => ?_)
        · have hw := hw.1 hd115
          exact hJ1010 h112 hw
        · have hw := hw.2 hd115
          refine ok_iconst (pc := 518) a dL_law_518 ?_
          exact hw.elim
      · have hw := hw.2.2.2.2.2.2.2.2.2.2.2.2.2.2.1 hv
        refine ok_tabIn (pc := 33) a 520 dL_law_33 hc4 (by omega) (by omega) (by rw [hv]; rfl) (by decide) ?_
        refine ok_aload_n (pc := 520) a dL_law_520 rfl rfl ?_
        refine ok_GRI (pc := 521) a [] [] (M_X8_undo (by decide) tcG  hw) dL_law_521 lkRL_73 rfl (by decide) kq0 (by decide) rfl ⟨by decide, by decide⟩ lawcs (Nat.le_of_ble_eq_true rfl) rfl (fun r116 h117 hw => ?_)
        refine ok_aload_n (pc := 524) a dL_law_524 rfl rfl ?_
        refine ok_GRI (pc := 525) a [] [(vI r116)] (M_X9_undo (by decide) tmG  hw) dL_law_525 lkRL_76 rfl (by decide) kq59 (by decide) rfl ⟨by decide, by decide⟩ lawcs (Nat.le_of_ble_eq_true rfl) rfl (fun r118 h119 hw => ?_)
        obtain ⟨hc120, hw⟩ := hw
        obtain ⟨hc121, hw⟩ := hw
        refine ok_icmp_eq (pc := 528) a 1010 dL_law_528 (by decide) hc120 hc121 (fun hd122 => ?_) (fun hd122 => ?_)
        · have hw := hw.1 hd122
          exact hJ1010 h119 hw
        · have hw := hw.2 hd122
          refine ok_iconst (pc := 531) a dL_law_531 ?_
          exact hw.elim
      · have hw := hw.2.2.2.2.2.2.2.2.2.2.2.2.2.2.2.1 hv
        refine ok_tabIn (pc := 33) a 533 dL_law_33 hc4 (by omega) (by omega) (by rw [hv]; rfl) (by decide) ?_
        refine ok_aload_n (pc := 533) a dL_law_533 rfl rfl ?_
        refine ok_aload_n (pc := 534) a dL_law_534 rfl rfl ?_
        refine ok_iload_n (pc := 535) a dL_law_535 rfl rfl ?_
        refine ok_iconst (pc := 536) a dL_law_536 ?_
        refine ok_iadd (pc := 537) a dL_law_537 ?_
        obtain ⟨hc123, hw⟩ := hw
        refine ok_sld (pc := 538) a dL_law_538 hLL hX hsz hbl hsx hc123 ?_
        refine ok_aload_n (pc := 539) a dL_law_539 rfl rfl ?_
        refine ok_iload_n (pc := 540) a dL_law_540 rfl rfl ?_
        refine ok_iconst (pc := 541) a dL_law_541 ?_
        refine ok_iadd (pc := 542) a dL_law_542 ?_
        obtain ⟨hc124, hw⟩ := hw
        refine ok_sld (pc := 543) a dL_law_543 hLL hX hsz hbl hsx hc124 ?_
        refine ok_GPI (pc := 544) a [(vI (sx (x3_18 + 1))), (vI (sx (x3_18 + 2)))] [] (M_X8_beam (by decide) tcG (sx (x3_18 + 1)) (sx (x3_18 + 2)) hw) dL_law_544 lkRL_77 rfl (by decide) kq0 (by decide) rfl ⟨by decide, by decide⟩ lawcs (Nat.le_of_ble_eq_true rfl) rfl (fun r125 hw => ?_)
        refine ok_aload_n (pc := 547) a dL_law_547 rfl rfl ?_
        refine ok_aload_n (pc := 548) a dL_law_548 rfl rfl ?_
        refine ok_iload_n (pc := 549) a dL_law_549 rfl rfl ?_
        refine ok_iconst (pc := 550) a dL_law_550 ?_
        refine ok_iadd (pc := 551) a dL_law_551 ?_
        refine ok_sld (pc := 552) a dL_law_552 hLL hX hsz hbl hsx hc123 ?_
        refine ok_aload_n (pc := 553) a dL_law_553 rfl rfl ?_
        refine ok_iload_n (pc := 554) a dL_law_554 rfl rfl ?_
        refine ok_iconst (pc := 555) a dL_law_555 ?_
        refine ok_iadd (pc := 556) a dL_law_556 ?_
        refine ok_sld (pc := 557) a dL_law_557 hLL hX hsz hbl hsx hc124 ?_
        refine ok_GRI (pc := 558) a [(vI (sx (x3_18 + 1))), (vI (sx (x3_18 + 2)))] [(vI r125)] (M_X9_beam (by decide) tmG (sx (x3_18 + 1)) (sx (x3_18 + 2)) hw) dL_law_558 lkRL_80 rfl (by decide) kq59 (by decide) rfl ⟨by decide, by decide⟩ lawcs (Nat.le_of_ble_eq_true rfl) rfl (fun r126 h127 hw => ?_)
        obtain ⟨hc128, hw⟩ := hw
        obtain ⟨hc129, hw⟩ := hw
        refine ok_icmp_eq (pc := 561) a 1010 dL_law_561 (by decide) hc128 hc129 (fun hd130 => ?_) (fun hd130 => ?_)
        · have hw := hw.1 hd130
          exact hJ1010 h127 hw
        · have hw := hw.2 hd130
          refine ok_iconst (pc := 564) a dL_law_564 ?_
          exact hw.elim
      · have hw := hw.2.2.2.2.2.2.2.2.2.2.2.2.2.2.2.2.1 hv
        refine ok_tabIn (pc := 33) a 566 dL_law_33 hc4 (by omega) (by omega) (by rw [hv]; rfl) (by decide) ?_
        refine ok_aload_n (pc := 566) a dL_law_566 rfl rfl ?_
        refine ok_aload_n (pc := 567) a dL_law_567 rfl rfl ?_
        refine ok_iload_n (pc := 568) a dL_law_568 rfl rfl ?_
        refine ok_iconst (pc := 569) a dL_law_569 ?_
        refine ok_iadd (pc := 570) a dL_law_570 ?_
        obtain ⟨hc131, hw⟩ := hw
        refine ok_sld (pc := 571) a dL_law_571 hLL hX hsz hbl hsx hc131 ?_
        refine ok_aload_n (pc := 572) a dL_law_572 rfl rfl ?_
        refine ok_iload_n (pc := 573) a dL_law_573 rfl rfl ?_
        refine ok_iconst (pc := 574) a dL_law_574 ?_
        refine ok_iadd (pc := 575) a dL_law_575 ?_
        obtain ⟨hc132, hw⟩ := hw
        refine ok_sld (pc := 576) a dL_law_576 hLL hX hsz hbl hsx hc132 ?_
        refine ok_aload_n (pc := 577) a dL_law_577 rfl rfl ?_
        refine ok_iload_n (pc := 578) a dL_law_578 rfl rfl ?_
        refine ok_iconst (pc := 579) a dL_law_579 ?_
        refine ok_iadd (pc := 580) a dL_law_580 ?_
        obtain ⟨hc133, hw⟩ := hw
        refine ok_sld (pc := 581) a dL_law_581 hLL hX hsz hbl hsx hc133 ?_
        refine ok_GRI (pc := 582) a [(vI (sx (x3_18 + 1))), (vI (sx (x3_18 + 2))), (vI (sx (x3_18 + 3)))] [] (M_X8_level (by decide) tcG (sx (x3_18 + 1)) (sx (x3_18 + 2)) (sx (x3_18 + 3)) hw) dL_law_582 lkRL_81 rfl (by decide) kq0 (by decide) rfl ⟨by decide, by decide⟩ lawcs (Nat.le_of_ble_eq_true rfl) rfl (fun r134 h135 hw => ?_)
        refine ok_aload_n (pc := 585) a dL_law_585 rfl rfl ?_
        refine ok_aload_n (pc := 586) a dL_law_586 rfl rfl ?_
        refine ok_iload_n (pc := 587) a dL_law_587 rfl rfl ?_
        refine ok_iconst (pc := 588) a dL_law_588 ?_
        refine ok_iadd (pc := 589) a dL_law_589 ?_
        refine ok_sld (pc := 590) a dL_law_590 hLL hX hsz hbl hsx hc131 ?_
        refine ok_aload_n (pc := 591) a dL_law_591 rfl rfl ?_
        refine ok_iload_n (pc := 592) a dL_law_592 rfl rfl ?_
        refine ok_iconst (pc := 593) a dL_law_593 ?_
        refine ok_iadd (pc := 594) a dL_law_594 ?_
        refine ok_sld (pc := 595) a dL_law_595 hLL hX hsz hbl hsx hc132 ?_
        refine ok_aload_n (pc := 596) a dL_law_596 rfl rfl ?_
        refine ok_iload_n (pc := 597) a dL_law_597 rfl rfl ?_
        refine ok_iconst (pc := 598) a dL_law_598 ?_
        refine ok_iadd (pc := 599) a dL_law_599 ?_
        refine ok_sld (pc := 600) a dL_law_600 hLL hX hsz hbl hsx hc133 ?_
        refine ok_GRI (pc := 601) a [(vI (sx (x3_18 + 1))), (vI (sx (x3_18 + 2))), (vI (sx (x3_18 + 3)))] [(vI r134)] (M_X9_level (by decide) tmG (sx (x3_18 + 1)) (sx (x3_18 + 2)) (sx (x3_18 + 3)) hw) dL_law_601 lkRL_84 rfl (by decide) kq59 (by decide) rfl ⟨by decide, by decide⟩ lawcs (Nat.le_of_ble_eq_true rfl) rfl (fun r136 h137 hw => ?_)
        obtain ⟨hc138, hw⟩ := hw
        obtain ⟨hc139, hw⟩ := hw
        refine ok_icmp_eq (pc := 604) a 1010 dL_law_604 (by decide) hc138 hc139 (fun hd140 => ?_) (fun hd140 => ?_)
        · have hw := hw.1 hd140
          exact hJ1010 h137 hw
        · have hw := hw.2 hd140
          refine ok_iconst (pc := 607) a dL_law_607 ?_
          exact hw.elim
      · have hw := hw.2.2.2.2.2.2.2.2.2.2.2.2.2.2.2.2.2.1 hv
        refine ok_tabIn (pc := 33) a 609 dL_law_33 hc4 (by omega) (by omega) (by rw [hv]; rfl) (by decide) ?_
        refine ok_aload_n (pc := 609) a dL_law_609 rfl rfl ?_
        refine ok_aload_n (pc := 610) a dL_law_610 rfl rfl ?_
        refine ok_iload_n (pc := 611) a dL_law_611 rfl rfl ?_
        refine ok_iconst (pc := 612) a dL_law_612 ?_
        refine ok_iadd (pc := 613) a dL_law_613 ?_
        obtain ⟨hc141, hw⟩ := hw
        refine ok_sld (pc := 614) a dL_law_614 hLL hX hsz hbl hsx hc141 ?_
        refine ok_aload_n (pc := 615) a dL_law_615 rfl rfl ?_
        refine ok_iload_n (pc := 616) a dL_law_616 rfl rfl ?_
        refine ok_iconst (pc := 617) a dL_law_617 ?_
        refine ok_iadd (pc := 618) a dL_law_618 ?_
        obtain ⟨hc142, hw⟩ := hw
        refine ok_sld (pc := 619) a dL_law_619 hLL hX hsz hbl hsx hc142 ?_
        refine ok_GPI (pc := 620) a [(vI (sx (x3_18 + 1))), (vI (sx (x3_18 + 2)))] [] (M_X8_when (by decide) tcG (sx (x3_18 + 1)) (sx (x3_18 + 2)) hw) dL_law_620 lkRL_85 rfl (by decide) kq0 (by decide) rfl ⟨by decide, by decide⟩ lawcs (Nat.le_of_ble_eq_true rfl) rfl (fun r143 hw => ?_)
        refine ok_aload_n (pc := 623) a dL_law_623 rfl rfl ?_
        refine ok_aload_n (pc := 624) a dL_law_624 rfl rfl ?_
        refine ok_iload_n (pc := 625) a dL_law_625 rfl rfl ?_
        refine ok_iconst (pc := 626) a dL_law_626 ?_
        refine ok_iadd (pc := 627) a dL_law_627 ?_
        refine ok_sld (pc := 628) a dL_law_628 hLL hX hsz hbl hsx hc141 ?_
        refine ok_aload_n (pc := 629) a dL_law_629 rfl rfl ?_
        refine ok_iload_n (pc := 630) a dL_law_630 rfl rfl ?_
        refine ok_iconst (pc := 631) a dL_law_631 ?_
        refine ok_iadd (pc := 632) a dL_law_632 ?_
        refine ok_sld (pc := 633) a dL_law_633 hLL hX hsz hbl hsx hc142 ?_
        refine ok_GRI (pc := 634) a [(vI (sx (x3_18 + 1))), (vI (sx (x3_18 + 2)))] [(vI r143)] (M_X9_when (by decide) tmG (sx (x3_18 + 1)) (sx (x3_18 + 2)) hw) dL_law_634 lkRL_88 rfl (by decide) kq59 (by decide) rfl ⟨by decide, by decide⟩ lawcs (Nat.le_of_ble_eq_true rfl) rfl (fun r144 h145 hw => ?_)
        obtain ⟨hc146, hw⟩ := hw
        obtain ⟨hc147, hw⟩ := hw
        refine ok_icmp_eq (pc := 637) a 1010 dL_law_637 (by decide) hc146 hc147 (fun hd148 => ?_) (fun hd148 => ?_)
        · have hw := hw.1 hd148
          exact hJ1010 h145 hw
        · have hw := hw.2 hd148
          refine ok_iconst (pc := 640) a dL_law_640 ?_
          exact hw.elim
      · have hw := hw.2.2.2.2.2.2.2.2.2.2.2.2.2.2.2.2.2.2.1 hv
        refine ok_tabIn (pc := 33) a 642 dL_law_33 hc4 (by omega) (by omega) (by rw [hv]; rfl) (by decide) ?_
        refine ok_aload_n (pc := 642) a dL_law_642 rfl rfl ?_
        refine ok_aload_n (pc := 643) a dL_law_643 rfl rfl ?_
        refine ok_iload_n (pc := 644) a dL_law_644 rfl rfl ?_
        refine ok_iconst (pc := 645) a dL_law_645 ?_
        refine ok_iadd (pc := 646) a dL_law_646 ?_
        obtain ⟨hc149, hw⟩ := hw
        refine ok_sld (pc := 647) a dL_law_647 hLL hX hsz hbl hsx hc149 ?_
        refine ok_aload_n (pc := 648) a dL_law_648 rfl rfl ?_
        refine ok_iload_n (pc := 649) a dL_law_649 rfl rfl ?_
        refine ok_iconst (pc := 650) a dL_law_650 ?_
        refine ok_iadd (pc := 651) a dL_law_651 ?_
        obtain ⟨hc150, hw⟩ := hw
        refine ok_sld (pc := 652) a dL_law_652 hLL hX hsz hbl hsx hc150 ?_
        refine ok_aload_n (pc := 653) a dL_law_653 rfl rfl ?_
        refine ok_iload_n (pc := 654) a dL_law_654 rfl rfl ?_
        refine ok_iconst (pc := 655) a dL_law_655 ?_
        refine ok_iadd (pc := 656) a dL_law_656 ?_
        obtain ⟨hc151, hw⟩ := hw
        refine ok_sld (pc := 657) a dL_law_657 hLL hX hsz hbl hsx hc151 ?_
        refine ok_aload_n (pc := 658) a dL_law_658 rfl rfl ?_
        refine ok_iload_n (pc := 659) a dL_law_659 rfl rfl ?_
        refine ok_iconst (pc := 660) a dL_law_660 ?_
        refine ok_iadd (pc := 661) a dL_law_661 ?_
        obtain ⟨hc152, hw⟩ := hw
        refine ok_sld (pc := 662) a dL_law_662 hLL hX hsz hbl hsx hc152 ?_
        refine ok_aload_n (pc := 663) a dL_law_663 rfl rfl ?_
        refine ok_iload_n (pc := 664) a dL_law_664 rfl rfl ?_
        refine ok_iconst (pc := 665) a dL_law_665 ?_
        refine ok_iadd (pc := 666) a dL_law_666 ?_
        obtain ⟨hc153, hw⟩ := hw
        refine ok_sld (pc := 667) a dL_law_667 hLL hX hsz hbl hsx hc153 ?_
        refine ok_GPL (pc := 668) a [(vI (sx (x3_18 + 1))), (vI (sx (x3_18 + 2))), (vI (sx (x3_18 + 3))), (vI (sx (x3_18 + 4))), (vI (sx (x3_18 + 5)))] [] (M_X8_odds (by decide) tcG (sx (x3_18 + 1)) (sx (x3_18 + 2)) (sx (x3_18 + 3)) (sx (x3_18 + 4)) (sx (x3_18 + 5)) hw) dL_law_668 lkRL_89 rfl (by decide) kq0 (by decide) rfl ⟨by decide, by decide⟩ lawcs (Nat.le_of_ble_eq_true rfl) rfl (fun r154 hw => ?_)
        refine ok_aload_n (pc := 671) a dL_law_671 rfl rfl ?_
        refine ok_aload_n (pc := 672) a dL_law_672 rfl rfl ?_
        refine ok_iload_n (pc := 673) a dL_law_673 rfl rfl ?_
        refine ok_iconst (pc := 674) a dL_law_674 ?_
        refine ok_iadd (pc := 675) a dL_law_675 ?_
        refine ok_sld (pc := 676) a dL_law_676 hLL hX hsz hbl hsx hc149 ?_
        refine ok_aload_n (pc := 677) a dL_law_677 rfl rfl ?_
        refine ok_iload_n (pc := 678) a dL_law_678 rfl rfl ?_
        refine ok_iconst (pc := 679) a dL_law_679 ?_
        refine ok_iadd (pc := 680) a dL_law_680 ?_
        refine ok_sld (pc := 681) a dL_law_681 hLL hX hsz hbl hsx hc150 ?_
        refine ok_aload_n (pc := 682) a dL_law_682 rfl rfl ?_
        refine ok_iload_n (pc := 683) a dL_law_683 rfl rfl ?_
        refine ok_iconst (pc := 684) a dL_law_684 ?_
        refine ok_iadd (pc := 685) a dL_law_685 ?_
        refine ok_sld (pc := 686) a dL_law_686 hLL hX hsz hbl hsx hc151 ?_
        refine ok_aload_n (pc := 687) a dL_law_687 rfl rfl ?_
        refine ok_iload_n (pc := 688) a dL_law_688 rfl rfl ?_
        refine ok_iconst (pc := 689) a dL_law_689 ?_
        refine ok_iadd (pc := 690) a dL_law_690 ?_
        refine ok_sld (pc := 691) a dL_law_691 hLL hX hsz hbl hsx hc152 ?_
        refine ok_aload_n (pc := 692) a dL_law_692 rfl rfl ?_
        refine ok_iload_n (pc := 693) a dL_law_693 rfl rfl ?_
        refine ok_iconst (pc := 694) a dL_law_694 ?_
        refine ok_iadd (pc := 695) a dL_law_695 ?_
        refine ok_sld (pc := 696) a dL_law_696 hLL hX hsz hbl hsx hc153 ?_
        refine ok_GRL (pc := 697) a [(vI (sx (x3_18 + 1))), (vI (sx (x3_18 + 2))), (vI (sx (x3_18 + 3))), (vI (sx (x3_18 + 4))), (vI (sx (x3_18 + 5)))] [(vL r154)] (M_X9_odds (by decide) tmG (sx (x3_18 + 1)) (sx (x3_18 + 2)) (sx (x3_18 + 3)) (sx (x3_18 + 4)) (sx (x3_18 + 5)) hw) dL_law_697 lkRL_93 rfl (by decide) kq59 (by decide) rfl ⟨by decide, by decide⟩ lawcs (Nat.le_of_ble_eq_true rfl) rfl (fun r155 h156 hw => ?_)
        obtain ⟨hc157, hw⟩ := hw
        obtain ⟨hc158, hw⟩ := hw
        refine ok_lcmp (pc := 700) a dL_law_700 hc157 hc158 ?_
        refine ok_if_eq (pc := 701) a 1010 dL_law_701 (by decide) (inR_cmpL r154 r155) (fun hd159 => ?_) (fun hd159 => ?_)
        · have hw := hw.1 hd159
          exact hJ1010 h156 hw
        · have hw := hw.2 hd159
          refine ok_iconst (pc := 704) a dL_law_704 ?_
          exact hw.elim
      · have hw := hw.2.2.2.2.2.2.2.2.2.2.2.2.2.2.2.2.2.2.2.1 hv
        refine ok_tabIn (pc := 33) a 706 dL_law_33 hc4 (by omega) (by omega) (by rw [hv]; rfl) (by decide) ?_
        refine ok_aload_n (pc := 706) a dL_law_706 rfl rfl ?_
        refine ok_aload_n (pc := 707) a dL_law_707 rfl rfl ?_
        refine ok_iload_n (pc := 708) a dL_law_708 rfl rfl ?_
        refine ok_iconst (pc := 709) a dL_law_709 ?_
        refine ok_iadd (pc := 710) a dL_law_710 ?_
        obtain ⟨hc160, hw⟩ := hw
        refine ok_sld (pc := 711) a dL_law_711 hLL hX hsz hbl hsx hc160 ?_
        refine ok_aload_n (pc := 712) a dL_law_712 rfl rfl ?_
        refine ok_iload_n (pc := 713) a dL_law_713 rfl rfl ?_
        refine ok_iconst (pc := 714) a dL_law_714 ?_
        refine ok_iadd (pc := 715) a dL_law_715 ?_
        obtain ⟨hc161, hw⟩ := hw
        refine ok_sld (pc := 716) a dL_law_716 hLL hX hsz hbl hsx hc161 ?_
        refine ok_GPI (pc := 717) a [(vI (sx (x3_18 + 1))), (vI (sx (x3_18 + 2)))] [] (M_X8_brass (by decide) tcG (sx (x3_18 + 1)) (sx (x3_18 + 2)) hw) dL_law_717 lkRL_94 rfl (by decide) kq0 (by decide) rfl ⟨by decide, by decide⟩ lawcs (Nat.le_of_ble_eq_true rfl) rfl (fun r162 hw => ?_)
        refine ok_aload_n (pc := 720) a dL_law_720 rfl rfl ?_
        refine ok_aload_n (pc := 721) a dL_law_721 rfl rfl ?_
        refine ok_iload_n (pc := 722) a dL_law_722 rfl rfl ?_
        refine ok_iconst (pc := 723) a dL_law_723 ?_
        refine ok_iadd (pc := 724) a dL_law_724 ?_
        refine ok_sld (pc := 725) a dL_law_725 hLL hX hsz hbl hsx hc160 ?_
        refine ok_aload_n (pc := 726) a dL_law_726 rfl rfl ?_
        refine ok_iload_n (pc := 727) a dL_law_727 rfl rfl ?_
        refine ok_iconst (pc := 728) a dL_law_728 ?_
        refine ok_iadd (pc := 729) a dL_law_729 ?_
        refine ok_sld (pc := 730) a dL_law_730 hLL hX hsz hbl hsx hc161 ?_
        refine ok_GRI (pc := 731) a [(vI (sx (x3_18 + 1))), (vI (sx (x3_18 + 2)))] [(vI r162)] (M_X9_brass (by decide) tmG (sx (x3_18 + 1)) (sx (x3_18 + 2)) hw) dL_law_731 lkRL_97 rfl (by decide) kq59 (by decide) rfl ⟨by decide, by decide⟩ lawcs (Nat.le_of_ble_eq_true rfl) rfl (fun r163 h164 hw => ?_)
        obtain ⟨hc165, hw⟩ := hw
        obtain ⟨hc166, hw⟩ := hw
        refine ok_icmp_eq (pc := 734) a 1010 dL_law_734 (by decide) hc165 hc166 (fun hd167 => ?_) (fun hd167 => ?_)
        · have hw := hw.1 hd167
          exact hJ1010 h164 hw
        · have hw := hw.2 hd167
          refine ok_iconst (pc := 737) a dL_law_737 ?_
          exact hw.elim
      · have hw := hw.2.2.2.2.2.2.2.2.2.2.2.2.2.2.2.2.2.2.2.2.1 hv
        refine ok_tabIn (pc := 33) a 739 dL_law_33 hc4 (by omega) (by omega) (by rw [hv]; rfl) (by decide) ?_
        refine ok_aload_n (pc := 739) a dL_law_739 rfl rfl ?_
        refine ok_aload_n (pc := 740) a dL_law_740 rfl rfl ?_
        refine ok_iload_n (pc := 741) a dL_law_741 rfl rfl ?_
        refine ok_iconst (pc := 742) a dL_law_742 ?_
        refine ok_iadd (pc := 743) a dL_law_743 ?_
        obtain ⟨hc168, hw⟩ := hw
        refine ok_sld (pc := 744) a dL_law_744 hLL hX hsz hbl hsx hc168 ?_
        refine ok_aload_n (pc := 745) a dL_law_745 rfl rfl ?_
        refine ok_iload_n (pc := 746) a dL_law_746 rfl rfl ?_
        refine ok_iconst (pc := 747) a dL_law_747 ?_
        refine ok_iadd (pc := 748) a dL_law_748 ?_
        obtain ⟨hc169, hw⟩ := hw
        refine ok_sld (pc := 749) a dL_law_749 hLL hX hsz hbl hsx hc169 ?_
        refine ok_aload_n (pc := 750) a dL_law_750 rfl rfl ?_
        refine ok_iload_n (pc := 751) a dL_law_751 rfl rfl ?_
        refine ok_iconst (pc := 752) a dL_law_752 ?_
        refine ok_iadd (pc := 753) a dL_law_753 ?_
        obtain ⟨hc170, hw⟩ := hw
        refine ok_sld (pc := 754) a dL_law_754 hLL hX hsz hbl hsx hc170 ?_
        refine ok_GRI (pc := 755) a [(vI (sx (x3_18 + 1))), (vI (sx (x3_18 + 2))), (vI (sx (x3_18 + 3)))] [] (M_X8_shows (by decide) tcG (sx (x3_18 + 1)) (sx (x3_18 + 2)) (sx (x3_18 + 3)) hw) dL_law_755 lkRL_98 rfl (by decide) kq0 (by decide) rfl ⟨by decide, by decide⟩ lawcs (Nat.le_of_ble_eq_true rfl) rfl (fun r171 h172 hw => ?_)
        refine ok_aload_n (pc := 758) a dL_law_758 rfl rfl ?_
        refine ok_aload_n (pc := 759) a dL_law_759 rfl rfl ?_
        refine ok_iload_n (pc := 760) a dL_law_760 rfl rfl ?_
        refine ok_iconst (pc := 761) a dL_law_761 ?_
        refine ok_iadd (pc := 762) a dL_law_762 ?_
        refine ok_sld (pc := 763) a dL_law_763 hLL hX hsz hbl hsx hc168 ?_
        refine ok_aload_n (pc := 764) a dL_law_764 rfl rfl ?_
        refine ok_iload_n (pc := 765) a dL_law_765 rfl rfl ?_
        refine ok_iconst (pc := 766) a dL_law_766 ?_
        refine ok_iadd (pc := 767) a dL_law_767 ?_
        refine ok_sld (pc := 768) a dL_law_768 hLL hX hsz hbl hsx hc169 ?_
        refine ok_aload_n (pc := 769) a dL_law_769 rfl rfl ?_
        refine ok_iload_n (pc := 770) a dL_law_770 rfl rfl ?_
        refine ok_iconst (pc := 771) a dL_law_771 ?_
        refine ok_iadd (pc := 772) a dL_law_772 ?_
        refine ok_sld (pc := 773) a dL_law_773 hLL hX hsz hbl hsx hc170 ?_
        refine ok_GRI (pc := 774) a [(vI (sx (x3_18 + 1))), (vI (sx (x3_18 + 2))), (vI (sx (x3_18 + 3)))] [(vI r171)] (M_X9_shows (by decide) tmG (sx (x3_18 + 1)) (sx (x3_18 + 2)) (sx (x3_18 + 3)) hw) dL_law_774 lkRL_101 rfl (by decide) kq59 (by decide) rfl ⟨by decide, by decide⟩ lawcs (Nat.le_of_ble_eq_true rfl) rfl (fun r173 h174 hw => ?_)
        obtain ⟨hc175, hw⟩ := hw
        obtain ⟨hc176, hw⟩ := hw
        refine ok_icmp_eq (pc := 777) a 1010 dL_law_777 (by decide) hc175 hc176 (fun hd177 => ?_) (fun hd177 => ?_)
        · have hw := hw.1 hd177
          exact hJ1010 h174 hw
        · have hw := hw.2 hd177
          refine ok_iconst (pc := 780) a dL_law_780 ?_
          exact hw.elim
      · have hw := hw.2.2.2.2.2.2.2.2.2.2.2.2.2.2.2.2.2.2.2.2.2.1 hv
        refine ok_tabIn (pc := 33) a 782 dL_law_33 hc4 (by omega) (by omega) (by rw [hv]; rfl) (by decide) ?_
        refine ok_aload_n (pc := 782) a dL_law_782 rfl rfl ?_
        refine ok_aload_n (pc := 783) a dL_law_783 rfl rfl ?_
        refine ok_iload_n (pc := 784) a dL_law_784 rfl rfl ?_
        refine ok_iconst (pc := 785) a dL_law_785 ?_
        refine ok_iadd (pc := 786) a dL_law_786 ?_
        obtain ⟨hc178, hw⟩ := hw
        refine ok_sld (pc := 787) a dL_law_787 hLL hX hsz hbl hsx hc178 ?_
        refine ok_aload_n (pc := 788) a dL_law_788 rfl rfl ?_
        refine ok_iload_n (pc := 789) a dL_law_789 rfl rfl ?_
        refine ok_iconst (pc := 790) a dL_law_790 ?_
        refine ok_iadd (pc := 791) a dL_law_791 ?_
        obtain ⟨hc179, hw⟩ := hw
        refine ok_sld (pc := 792) a dL_law_792 hLL hX hsz hbl hsx hc179 ?_
        refine ok_GRI (pc := 793) a [(vI (sx (x3_18 + 1))), (vI (sx (x3_18 + 2)))] [] (M_X8_can (by decide) tcG (sx (x3_18 + 1)) (sx (x3_18 + 2)) hw) dL_law_793 lkRL_102 rfl (by decide) kq0 (by decide) rfl ⟨by decide, by decide⟩ lawcs (Nat.le_of_ble_eq_true rfl) rfl (fun r180 h181 hw => ?_)
        refine ok_aload_n (pc := 796) a dL_law_796 rfl rfl ?_
        refine ok_aload_n (pc := 797) a dL_law_797 rfl rfl ?_
        refine ok_iload_n (pc := 798) a dL_law_798 rfl rfl ?_
        refine ok_iconst (pc := 799) a dL_law_799 ?_
        refine ok_iadd (pc := 800) a dL_law_800 ?_
        refine ok_sld (pc := 801) a dL_law_801 hLL hX hsz hbl hsx hc178 ?_
        refine ok_aload_n (pc := 802) a dL_law_802 rfl rfl ?_
        refine ok_iload_n (pc := 803) a dL_law_803 rfl rfl ?_
        refine ok_iconst (pc := 804) a dL_law_804 ?_
        refine ok_iadd (pc := 805) a dL_law_805 ?_
        refine ok_sld (pc := 806) a dL_law_806 hLL hX hsz hbl hsx hc179 ?_
        refine ok_GRI (pc := 807) a [(vI (sx (x3_18 + 1))), (vI (sx (x3_18 + 2)))] [(vI r180)] (M_X9_can (by decide) tmG (sx (x3_18 + 1)) (sx (x3_18 + 2)) hw) dL_law_807 lkRL_105 rfl (by decide) kq59 (by decide) rfl ⟨by decide, by decide⟩ lawcs (Nat.le_of_ble_eq_true rfl) rfl (fun r182 h183 hw => ?_)
        obtain ⟨hc184, hw⟩ := hw
        obtain ⟨hc185, hw⟩ := hw
        refine ok_icmp_eq (pc := 810) a 1010 dL_law_810 (by decide) hc184 hc185 (fun hd186 => ?_) (fun hd186 => ?_)
        · have hw := hw.1 hd186
          exact hJ1010 h183 hw
        · have hw := hw.2 hd186
          refine ok_iconst (pc := 813) a dL_law_813 ?_
          exact hw.elim
      · have hw := hw.2.2.2.2.2.2.2.2.2.2.2.2.2.2.2.2.2.2.2.2.2.2.1 hv
        refine ok_tabIn (pc := 33) a 815 dL_law_33 hc4 (by omega) (by omega) (by rw [hv]; rfl) (by decide) ?_
        refine ok_aload_n (pc := 815) a dL_law_815 rfl rfl ?_
        refine ok_aload_n (pc := 816) a dL_law_816 rfl rfl ?_
        refine ok_iload_n (pc := 817) a dL_law_817 rfl rfl ?_
        refine ok_iconst (pc := 818) a dL_law_818 ?_
        refine ok_iadd (pc := 819) a dL_law_819 ?_
        obtain ⟨hc187, hw⟩ := hw
        refine ok_sld (pc := 820) a dL_law_820 hLL hX hsz hbl hsx hc187 ?_
        refine ok_aload_n (pc := 821) a dL_law_821 rfl rfl ?_
        refine ok_iload_n (pc := 822) a dL_law_822 rfl rfl ?_
        refine ok_iconst (pc := 823) a dL_law_823 ?_
        refine ok_iadd (pc := 824) a dL_law_824 ?_
        obtain ⟨hc188, hw⟩ := hw
        refine ok_sld (pc := 825) a dL_law_825 hLL hX hsz hbl hsx hc188 ?_
        refine ok_GRI (pc := 826) a [(vI (sx (x3_18 + 1))), (vI (sx (x3_18 + 2)))] [] (M_X8_saw (by decide) tcG (sx (x3_18 + 1)) (sx (x3_18 + 2)) hw) dL_law_826 lkRL_106 rfl (by decide) kq0 (by decide) rfl ⟨by decide, by decide⟩ lawcs (Nat.le_of_ble_eq_true rfl) rfl (fun r189 h190 hw => ?_)
        refine ok_aload_n (pc := 829) a dL_law_829 rfl rfl ?_
        refine ok_aload_n (pc := 830) a dL_law_830 rfl rfl ?_
        refine ok_iload_n (pc := 831) a dL_law_831 rfl rfl ?_
        refine ok_iconst (pc := 832) a dL_law_832 ?_
        refine ok_iadd (pc := 833) a dL_law_833 ?_
        refine ok_sld (pc := 834) a dL_law_834 hLL hX hsz hbl hsx hc187 ?_
        refine ok_aload_n (pc := 835) a dL_law_835 rfl rfl ?_
        refine ok_iload_n (pc := 836) a dL_law_836 rfl rfl ?_
        refine ok_iconst (pc := 837) a dL_law_837 ?_
        refine ok_iadd (pc := 838) a dL_law_838 ?_
        refine ok_sld (pc := 839) a dL_law_839 hLL hX hsz hbl hsx hc188 ?_
        refine ok_GRI (pc := 840) a [(vI (sx (x3_18 + 1))), (vI (sx (x3_18 + 2)))] [(vI r189)] (M_X9_saw (by decide) tmG (sx (x3_18 + 1)) (sx (x3_18 + 2)) hw) dL_law_840 lkRL_109 rfl (by decide) kq59 (by decide) rfl ⟨by decide, by decide⟩ lawcs (Nat.le_of_ble_eq_true rfl) rfl (fun r191 h192 hw => ?_)
        obtain ⟨hc193, hw⟩ := hw
        obtain ⟨hc194, hw⟩ := hw
        refine ok_icmp_eq (pc := 843) a 1010 dL_law_843 (by decide) hc193 hc194 (fun hd195 => ?_) (fun hd195 => ?_)
        · have hw := hw.1 hd195
          exact hJ1010 h192 hw
        · have hw := hw.2 hd195
          refine ok_iconst (pc := 846) a dL_law_846 ?_
          exact hw.elim
      · have hw := hw.2.2.2.2.2.2.2.2.2.2.2.2.2.2.2.2.2.2.2.2.2.2.2.1 hv
        refine ok_tabIn (pc := 33) a 848 dL_law_33 hc4 (by omega) (by omega) (by rw [hv]; rfl) (by decide) ?_
        refine ok_aload_n (pc := 848) a dL_law_848 rfl rfl ?_
        refine ok_aload_n (pc := 849) a dL_law_849 rfl rfl ?_
        refine ok_iload_n (pc := 850) a dL_law_850 rfl rfl ?_
        refine ok_iconst (pc := 851) a dL_law_851 ?_
        refine ok_iadd (pc := 852) a dL_law_852 ?_
        obtain ⟨hc196, hw⟩ := hw
        refine ok_sld (pc := 853) a dL_law_853 hLL hX hsz hbl hsx hc196 ?_
        refine ok_aload_n (pc := 854) a dL_law_854 rfl rfl ?_
        refine ok_iload_n (pc := 855) a dL_law_855 rfl rfl ?_
        refine ok_iconst (pc := 856) a dL_law_856 ?_
        refine ok_iadd (pc := 857) a dL_law_857 ?_
        obtain ⟨hc197, hw⟩ := hw
        refine ok_sld (pc := 858) a dL_law_858 hLL hX hsz hbl hsx hc197 ?_
        refine ok_GPI (pc := 859) a [(vI (sx (x3_18 + 1))), (vI (sx (x3_18 + 2)))] [] (M_X8_laws (by decide) tcG (sx (x3_18 + 1)) (sx (x3_18 + 2)) hw) dL_law_859 lkRL_110 rfl (by decide) kq0 (by decide) rfl ⟨by decide, by decide⟩ lawcs (Nat.le_of_ble_eq_true rfl) rfl (fun r198 hw => ?_)
        refine ok_aload_n (pc := 862) a dL_law_862 rfl rfl ?_
        refine ok_aload_n (pc := 863) a dL_law_863 rfl rfl ?_
        refine ok_iload_n (pc := 864) a dL_law_864 rfl rfl ?_
        refine ok_iconst (pc := 865) a dL_law_865 ?_
        refine ok_iadd (pc := 866) a dL_law_866 ?_
        refine ok_sld (pc := 867) a dL_law_867 hLL hX hsz hbl hsx hc196 ?_
        refine ok_aload_n (pc := 868) a dL_law_868 rfl rfl ?_
        refine ok_iload_n (pc := 869) a dL_law_869 rfl rfl ?_
        refine ok_iconst (pc := 870) a dL_law_870 ?_
        refine ok_iadd (pc := 871) a dL_law_871 ?_
        refine ok_sld (pc := 872) a dL_law_872 hLL hX hsz hbl hsx hc197 ?_
        refine ok_GRI (pc := 873) a [(vI (sx (x3_18 + 1))), (vI (sx (x3_18 + 2)))] [(vI r198)] (M_X9_laws (by decide) tmG (sx (x3_18 + 1)) (sx (x3_18 + 2)) hw) dL_law_873 lkRL_113 rfl (by decide) kq59 (by decide) rfl ⟨by decide, by decide⟩ lawcs (Nat.le_of_ble_eq_true rfl) rfl (fun r199 h200 hw => ?_)
        obtain ⟨hc201, hw⟩ := hw
        obtain ⟨hc202, hw⟩ := hw
        refine ok_icmp_eq (pc := 876) a 1010 dL_law_876 (by decide) hc201 hc202 (fun hd203 => ?_) (fun hd203 => ?_)
        · have hw := hw.1 hd203
          exact hJ1010 h200 hw
        · have hw := hw.2 hd203
          refine ok_iconst (pc := 879) a dL_law_879 ?_
          exact hw.elim
      · have hw := hw.2.2.2.2.2.2.2.2.2.2.2.2.2.2.2.2.2.2.2.2.2.2.2.2.1 hv
        refine ok_tabIn (pc := 33) a 881 dL_law_33 hc4 (by omega) (by omega) (by rw [hv]; rfl) (by decide) ?_
        refine ok_aload_n (pc := 881) a dL_law_881 rfl rfl ?_
        refine ok_GRI (pc := 882) a [] [] (M_X8_clean (by decide) tcG  hw) dL_law_882 lkRL_114 rfl (by decide) kq0 (by decide) rfl ⟨by decide, by decide⟩ lawcs (Nat.le_of_ble_eq_true rfl) rfl (fun r204 h205 hw => ?_)
        refine ok_aload_n (pc := 885) a dL_law_885 rfl rfl ?_
        refine ok_GRI (pc := 886) a [] [(vI r204)] (M_X9_clean (by decide) tmG  hw) dL_law_886 lkRL_117 rfl (by decide) kq59 (by decide) rfl ⟨by decide, by decide⟩ lawcs (Nat.le_of_ble_eq_true rfl) rfl (fun r206 h207 hw => ?_)
        obtain ⟨hc208, hw⟩ := hw
        obtain ⟨hc209, hw⟩ := hw
        refine ok_icmp_eq (pc := 889) a 1010 dL_law_889 (by decide) hc208 hc209 (fun hd210 => ?_) (fun hd210 => ?_)
        · have hw := hw.1 hd210
          exact hJ1010 h207 hw
        · have hw := hw.2 hd210
          refine ok_iconst (pc := 892) a dL_law_892 ?_
          exact hw.elim
      · have hw := hw.2.2.2.2.2.2.2.2.2.2.2.2.2.2.2.2.2.2.2.2.2.2.2.2.2.1 hv
        refine ok_tabIn (pc := 33) a 894 dL_law_33 hc4 (by omega) (by omega) (by rw [hv]; rfl) (by decide) ?_
        refine ok_aload_n (pc := 894) a dL_law_894 rfl rfl ?_
        refine ok_aload_n (pc := 895) a dL_law_895 rfl rfl ?_
        refine ok_iload_n (pc := 896) a dL_law_896 rfl rfl ?_
        refine ok_iconst (pc := 897) a dL_law_897 ?_
        refine ok_iadd (pc := 898) a dL_law_898 ?_
        obtain ⟨hc211, hw⟩ := hw
        refine ok_sld (pc := 899) a dL_law_899 hLL hX hsz hbl hsx hc211 ?_
        refine ok_aload_n (pc := 900) a dL_law_900 rfl rfl ?_
        refine ok_iload_n (pc := 901) a dL_law_901 rfl rfl ?_
        refine ok_iconst (pc := 902) a dL_law_902 ?_
        refine ok_iadd (pc := 903) a dL_law_903 ?_
        obtain ⟨hc212, hw⟩ := hw
        refine ok_sld (pc := 904) a dL_law_904 hLL hX hsz hbl hsx hc212 ?_
        refine ok_GRI (pc := 905) a [(vI (sx (x3_18 + 1))), (vI (sx (x3_18 + 2)))] [] (M_X8_rate (by decide) tcG (sx (x3_18 + 1)) (sx (x3_18 + 2)) hw) dL_law_905 lkRL_118 rfl (by decide) kq0 (by decide) rfl ⟨by decide, by decide⟩ lawcs (Nat.le_of_ble_eq_true rfl) rfl (fun r213 h214 hw => ?_)
        refine ok_aload_n (pc := 908) a dL_law_908 rfl rfl ?_
        refine ok_aload_n (pc := 909) a dL_law_909 rfl rfl ?_
        refine ok_iload_n (pc := 910) a dL_law_910 rfl rfl ?_
        refine ok_iconst (pc := 911) a dL_law_911 ?_
        refine ok_iadd (pc := 912) a dL_law_912 ?_
        refine ok_sld (pc := 913) a dL_law_913 hLL hX hsz hbl hsx hc211 ?_
        refine ok_aload_n (pc := 914) a dL_law_914 rfl rfl ?_
        refine ok_iload_n (pc := 915) a dL_law_915 rfl rfl ?_
        refine ok_iconst (pc := 916) a dL_law_916 ?_
        refine ok_iadd (pc := 917) a dL_law_917 ?_
        refine ok_sld (pc := 918) a dL_law_918 hLL hX hsz hbl hsx hc212 ?_
        refine ok_GRI (pc := 919) a [(vI (sx (x3_18 + 1))), (vI (sx (x3_18 + 2)))] [(vI r213)] (M_X9_rate (by decide) tmG (sx (x3_18 + 1)) (sx (x3_18 + 2)) hw) dL_law_919 lkRL_121 rfl (by decide) kq59 (by decide) rfl ⟨by decide, by decide⟩ lawcs (Nat.le_of_ble_eq_true rfl) rfl (fun r215 h216 hw => ?_)
        obtain ⟨hc217, hw⟩ := hw
        obtain ⟨hc218, hw⟩ := hw
        refine ok_icmp_eq (pc := 922) a 1010 dL_law_922 (by decide) hc217 hc218 (fun hd219 => ?_) (fun hd219 => ?_)
        · have hw := hw.1 hd219
          exact hJ1010 h216 hw
        · have hw := hw.2 hd219
          refine ok_iconst (pc := 925) a dL_law_925 ?_
          exact hw.elim
      · have hw := hw.2.2.2.2.2.2.2.2.2.2.2.2.2.2.2.2.2.2.2.2.2.2.2.2.2.2.1 hv
        refine ok_tabIn (pc := 33) a 927 dL_law_33 hc4 (by omega) (by omega) (by rw [hv]; rfl) (by decide) ?_
        refine ok_aload_n (pc := 927) a dL_law_927 rfl rfl ?_
        refine ok_aload_n (pc := 928) a dL_law_928 rfl rfl ?_
        refine ok_iload_n (pc := 929) a dL_law_929 rfl rfl ?_
        refine ok_iconst (pc := 930) a dL_law_930 ?_
        refine ok_iadd (pc := 931) a dL_law_931 ?_
        obtain ⟨hc220, hw⟩ := hw
        refine ok_sld (pc := 932) a dL_law_932 hLL hX hsz hbl hsx hc220 ?_
        refine ok_GRI (pc := 933) a [(vI (sx (x3_18 + 1)))] [] (M_X8_keep (by decide) tcG (sx (x3_18 + 1)) hw) dL_law_933 lkRL_122 rfl (by decide) kq0 (by decide) rfl ⟨by decide, by decide⟩ lawcs (Nat.le_of_ble_eq_true rfl) rfl (fun r221 h222 hw => ?_)
        refine ok_aload_n (pc := 936) a dL_law_936 rfl rfl ?_
        refine ok_aload_n (pc := 937) a dL_law_937 rfl rfl ?_
        refine ok_iload_n (pc := 938) a dL_law_938 rfl rfl ?_
        refine ok_iconst (pc := 939) a dL_law_939 ?_
        refine ok_iadd (pc := 940) a dL_law_940 ?_
        refine ok_sld (pc := 941) a dL_law_941 hLL hX hsz hbl hsx hc220 ?_
        refine ok_GRI (pc := 942) a [(vI (sx (x3_18 + 1)))] [(vI r221)] (M_X9_keep (by decide) tmG (sx (x3_18 + 1)) hw) dL_law_942 lkRL_125 rfl (by decide) kq59 (by decide) rfl ⟨by decide, by decide⟩ lawcs (Nat.le_of_ble_eq_true rfl) rfl (fun r223 h224 hw => ?_)
        obtain ⟨hc225, hw⟩ := hw
        obtain ⟨hc226, hw⟩ := hw
        refine ok_icmp_eq (pc := 945) a 1010 dL_law_945 (by decide) hc225 hc226 (fun hd227 => ?_) (fun hd227 => ?_)
        · have hw := hw.1 hd227
          exact hJ1010 h224 hw
        · have hw := hw.2 hd227
          refine ok_iconst (pc := 948) a dL_law_948 ?_
          exact hw.elim
      · have hw := hw.2.2.2.2.2.2.2.2.2.2.2.2.2.2.2.2.2.2.2.2.2.2.2.2.2.2.2.1 hv
        refine ok_tabIn (pc := 33) a 950 dL_law_33 hc4 (by omega) (by omega) (by rw [hv]; rfl) (by decide) ?_
        refine ok_aload_n (pc := 950) a dL_law_950 rfl rfl ?_
        refine ok_aload_n (pc := 951) a dL_law_951 rfl rfl ?_
        refine ok_iload_n (pc := 952) a dL_law_952 rfl rfl ?_
        refine ok_iconst (pc := 953) a dL_law_953 ?_
        refine ok_iadd (pc := 954) a dL_law_954 ?_
        obtain ⟨hc228, hw⟩ := hw
        refine ok_sld (pc := 955) a dL_law_955 hLL hX hsz hbl hsx hc228 ?_
        refine ok_GRI (pc := 956) a [(vI (sx (x3_18 + 1)))] [] (M_X8_back (by decide) tcG (sx (x3_18 + 1)) hw) dL_law_956 lkRL_126 rfl (by decide) kq0 (by decide) rfl ⟨by decide, by decide⟩ lawcs (Nat.le_of_ble_eq_true rfl) rfl (fun r229 h230 hw => ?_)
        refine ok_aload_n (pc := 959) a dL_law_959 rfl rfl ?_
        refine ok_aload_n (pc := 960) a dL_law_960 rfl rfl ?_
        refine ok_iload_n (pc := 961) a dL_law_961 rfl rfl ?_
        refine ok_iconst (pc := 962) a dL_law_962 ?_
        refine ok_iadd (pc := 963) a dL_law_963 ?_
        refine ok_sld (pc := 964) a dL_law_964 hLL hX hsz hbl hsx hc228 ?_
        refine ok_GRI (pc := 965) a [(vI (sx (x3_18 + 1)))] [(vI r229)] (M_X9_back (by decide) tmG (sx (x3_18 + 1)) hw) dL_law_965 lkRL_129 rfl (by decide) kq59 (by decide) rfl ⟨by decide, by decide⟩ lawcs (Nat.le_of_ble_eq_true rfl) rfl (fun r231 h232 hw => ?_)
        obtain ⟨hc233, hw⟩ := hw
        obtain ⟨hc234, hw⟩ := hw
        refine ok_icmp_eq (pc := 968) a 1010 dL_law_968 (by decide) hc233 hc234 (fun hd235 => ?_) (fun hd235 => ?_)
        · have hw := hw.1 hd235
          exact hJ1010 h232 hw
        · have hw := hw.2 hd235
          refine ok_iconst (pc := 971) a dL_law_971 ?_
          exact hw.elim
      · have hw := hw.2.2.2.2.2.2.2.2.2.2.2.2.2.2.2.2.2.2.2.2.2.2.2.2.2.2.2.2.1 hv
        refine ok_tabIn (pc := 33) a 973 dL_law_33 hc4 (by omega) (by omega) (by rw [hv]; rfl) (by decide) ?_
        refine ok_aload_n (pc := 973) a dL_law_973 rfl rfl ?_
        refine ok_aload_n (pc := 974) a dL_law_974 rfl rfl ?_
        refine ok_iload_n (pc := 975) a dL_law_975 rfl rfl ?_
        refine ok_iconst (pc := 976) a dL_law_976 ?_
        refine ok_iadd (pc := 977) a dL_law_977 ?_
        obtain ⟨hc236, hw⟩ := hw
        refine ok_sld (pc := 978) a dL_law_978 hLL hX hsz hbl hsx hc236 ?_
        refine ok_GPI (pc := 979) a [(vI (sx (x3_18 + 1)))] [] (M_X8_count (by decide) tcG (sx (x3_18 + 1)) hw) dL_law_979 lkRL_130 rfl (by decide) kq0 (by decide) rfl ⟨by decide, by decide⟩ lawcs (Nat.le_of_ble_eq_true rfl) rfl (fun r237 hw => ?_)
        refine ok_aload_n (pc := 982) a dL_law_982 rfl rfl ?_
        refine ok_aload_n (pc := 983) a dL_law_983 rfl rfl ?_
        refine ok_iload_n (pc := 984) a dL_law_984 rfl rfl ?_
        refine ok_iconst (pc := 985) a dL_law_985 ?_
        refine ok_iadd (pc := 986) a dL_law_986 ?_
        refine ok_sld (pc := 987) a dL_law_987 hLL hX hsz hbl hsx hc236 ?_
        refine ok_GRI (pc := 988) a [(vI (sx (x3_18 + 1)))] [(vI r237)] (M_X9_count (by decide) tmG (sx (x3_18 + 1)) hw) dL_law_988 lkRL_133 rfl (by decide) kq59 (by decide) rfl ⟨by decide, by decide⟩ lawcs (Nat.le_of_ble_eq_true rfl) rfl (fun r238 h239 hw => ?_)
        obtain ⟨hc240, hw⟩ := hw
        obtain ⟨hc241, hw⟩ := hw
        refine ok_icmp_eq (pc := 991) a 1010 dL_law_991 (by decide) hc240 hc241 (fun hd242 => ?_) (fun hd242 => ?_)
        · have hw := hw.1 hd242
          exact hJ1010 h239 hw
        · have hw := hw.2 hd242
          refine ok_iconst (pc := 994) a dL_law_994 ?_
          exact hw.elim
      · have hw := hw.2.2.2.2.2.2.2.2.2.2.2.2.2.2.2.2.2.2.2.2.2.2.2.2.2.2.2.2.2 hv
        refine ok_tabIn (pc := 33) a 996 dL_law_33 hc4 (by omega) (by omega) (by rw [hv]; rfl) (by decide) ?_
        refine ok_aload_n (pc := 996) a dL_law_996 rfl rfl ?_
        refine ok_GPL (pc := 997) a [] [] (M_X8_trace (by decide) tcG  hw) dL_law_997 lkRL_134 rfl (by decide) kq0 (by decide) rfl ⟨by decide, by decide⟩ lawcs (Nat.le_of_ble_eq_true rfl) rfl (fun r243 hw => ?_)
        refine ok_aload_n (pc := 1000) a dL_law_1000 rfl rfl ?_
        refine ok_GRL (pc := 1001) a [] [(vL r243)] (M_X9_trace (by decide) tmG  hw) dL_law_1001 lkRL_138 rfl (by decide) kq59 (by decide) rfl ⟨by decide, by decide⟩ lawcs (Nat.le_of_ble_eq_true rfl) rfl (fun r244 h245 hw => ?_)
        obtain ⟨hc246, hw⟩ := hw
        obtain ⟨hc247, hw⟩ := hw
        refine ok_lcmp (pc := 1004) a dL_law_1004 hc246 hc247 ?_
        refine ok_if_eq (pc := 1005) a 1010 dL_law_1005 (by decide) (inR_cmpL r243 r244) (fun hd248 => ?_) (fun hd248 => ?_)
        · have hw := hw.1 hd248
          exact hJ1010 h245 hw
        · have hw := hw.2 hd248
          refine ok_iconst (pc := 1008) a dL_law_1008 ?_
          exact hw.elim

