def cellref : List (Nat × Nat × Nat) := [(0,0,1),(0,1,3),(0,2,8),(0,3,13),(0,4,15),(0,5,37),(0,6,42),(0,7,43),(0,8,46),(0,9,49),(0,10,52),(1,0,2),(3,0,4),(3,1,5),(3,2,6),(3,3,7),(8,0,9),(8,1,10),(8,2,11),(8,3,12),(15,0,16),(43,0,44),(43,1,45),(46,0,47),(46,1,48),(49,0,50),(49,1,51),(52,0,53),(52,1,54),(52,2,55),(52,3,56),(52,4,57),(52,5,58),(13,0,14),(17,0,18),(19,0,20),(21,0,22),(23,0,24),(25,0,26),(27,0,28),(29,0,30),(31,0,32),(33,0,34),(35,0,36),(38,0,39),(40,0,41),(16,0,17),(16,1,19),(16,2,21),(16,3,23),(16,4,25),(16,5,27),(16,6,29),(16,7,31),(16,8,33),(16,9,35),(37,0,38),(37,1,40),(59,2,60),(59,9,61),(59,10,62),(59,11,63),(59,12,64),(59,13,65),(59,14,66),(59,15,67),(59,16,68),(59,17,69),(59,19,70),(59,20,71),(59,21,72),(59,23,73),(59,24,74),(59,26,75),(59,28,76),(59,29,77),(59,30,78),(59,31,79)]
/-- what the references of the class's 59 cells, of the reference's 21, are once they are made -/
def TC (g : aG) : Prop := ∀ q ∈ cellref, q.1 < 59 → g q.1 (q.2.1 : Int) = some q.2.2
def TM (g : aG) : Prop := ∀ q ∈ cellref, 59 ≤ q.1 → g q.1 (q.2.1 : Int) = some q.2.2
theorem TC.at {g : aG} (t : TC g) (k j r : Nat) (h : (k, j, r) ∈ cellref) (hk : k < 59) : g k (j : Int) = some r := t _ h hk
theorem TM.at {g : aG} (t : TM g) (k j r : Nat) (h : (k, j, r) ∈ cellref) (hk : 59 ≤ k) : g k (j : Int) = some r := t _ h hk
theorem mom_spec0 : ∀ k, k < 59 → ¬ (kd k).1 = 4 ∨ ((k, 0, k + 1) ∈ cellref ∧ kd (k + 1) = (10, 16) ∧ k + 1 < 59) := by decide +kernel
theorem mom_spec (k : Nat) (h : k < 59) (h4 : (kd k).1 = 4) : (k, 0, k + 1) ∈ cellref ∧ kd (k + 1) = (10, 16) ∧ k + 1 < 59 := (mom_spec0 k h).resolve_left (fun q => q h4)
theorem shop_s1 : ∀ k, k < 59 → ¬ (kd k).1 = 7 ∨ ((k, 0, k + 1) ∈ cellref ∧ (k, 1, k + 2) ∈ cellref) := by decide +kernel
theorem shop_s0 : ∀ k, k < 59 → ¬ (kd k).1 = 7 ∨ ((k, 2, k + 3) ∈ cellref ∧ (k, 3, k + 4) ∈ cellref) := by decide +kernel
theorem shop_s2 : ∀ k, k < 59 → ¬ (kd k).1 = 7 ∨ (kd (k + 1) = (10, 4) ∧ kd (k + 2) = (10, 16) ∧ kd (k + 3) = (10, 16)) := by decide +kernel
theorem shop_s3 : ∀ k, k < 59 → ¬ (kd k).1 = 7 ∨ (kd (k + 4) = (10, 5) ∧ k + 4 < 59) := by decide +kernel
theorem shop_spec (k : Nat) (h : k < 59) (h4 : (kd k).1 = 7) : ((k, 0, k + 1) ∈ cellref ∧ (k, 1, k + 2) ∈ cellref ∧ (k, 2, k + 3) ∈ cellref ∧ (k, 3, k + 4) ∈ cellref) ∧ kd (k + 1) = (10, 4) ∧ kd (k + 2) = (10, 16) ∧ kd (k + 3) = (10, 16) ∧ kd (k + 4) = (10, 5) ∧ k + 4 < 59 := by
  obtain ⟨x1, x2⟩ := (shop_s1 k h).resolve_left (fun q => q h4)
  obtain ⟨x3, x4⟩ := (shop_s0 k h).resolve_left (fun q => q h4)
  obtain ⟨x5, x6, x7⟩ := (shop_s2 k h).resolve_left (fun q => q h4)
  obtain ⟨x8, x9⟩ := (shop_s3 k h).resolve_left (fun q => q h4)
  exact ⟨⟨x1, x2, x3, x4⟩, x5, x6, x7, x8, x9⟩
theorem ring_fix : ∀ i, i < 10 → (16, i, 17 + 2 * i) ∈ cellref ∧ (kd (17 + 2 * i)).1 = 4 ∧ 17 + 2 * i < 59 := by decide +kernel
theorem img_fix : ∀ i, i < 2 → (37, i, 38 + 2 * i) ∈ cellref ∧ (kd (38 + 2 * i)).1 = 4 ∧ 38 + 2 * i < 59 := by decide +kernel
theorem TC.ring {g : aG} (t : TC g) {i : Int} (h : 0 ≤ i ∧ i < 10) : g 16 i = some (17 + 2 * i.toNat) := by
  have := t.at 16 i.toNat (17 + 2 * i.toNat) (ring_fix _ (by omega)).1 (by decide)
  rwa [Int.toNat_of_nonneg h.1] at this
theorem TC.img {g : aG} (t : TC g) {i : Int} (h : 0 ≤ i ∧ i < 2) : g 37 i = some (38 + 2 * i.toNat) := by
  have := t.at 37 i.toNat (38 + 2 * i.toNat) (img_fix _ (by omega)).1 (by decide)
  rwa [Int.toNat_of_nonneg h.1] at this
def RI (g : aG) (Q : Int → aH → Prop) : Option aV → aG → aH → Prop := fun v g' h' => ∃ r, v = some (vI r) ∧ g' = g ∧ Q r h'
def RL' (g : aG) (Q : Int → aH → Prop) : Option aV → aG → aH → Prop := fun v g' h' => ∃ r, v = some (vL r) ∧ g' = g ∧ Q r h'
def RV (g : aG) (Q : aH → Prop) : Option aV → aG → aH → Prop := fun v g' h' => v = none ∧ g' = g ∧ Q h'
def RZ (g : aG) (Q : Int → aH → Prop) : Option aV → aG → aH → Prop := fun v g' h' => ∃ r, v = some (vI r) ∧ g' = g ∧ (r = 0 ∨ r = 1) ∧ Q r h'
def PI (g : aG) (h : aH) (Q : Int → Prop) : Option aV → aG → aH → Prop := fun v g' h' => ∃ r, v = some (vI r) ∧ g' = g ∧ h' = h ∧ Q r
def PZ (g : aG) (h : aH) (Q : Int → Prop) : Option aV → aG → aH → Prop := fun v g' h' => ∃ r, v = some (vI r) ∧ g' = g ∧ h' = h ∧ (r = 0 ∨ r = 1) ∧ Q r
def PL (g : aG) (h : aH) (Q : Int → Prop) : Option aV → aG → aH → Prop := fun v g' h' => ∃ r, v = some (vL r) ∧ g' = g ∧ h' = h ∧ Q r
theorem ite01 {c : Prop} [Decidable c] {a b : Int} (ha : a = 0 ∨ a = 1) (hb : b = 0 ∨ b = 1) : (if c then a else b) = 0 ∨ (if c then a else b) = 1 := by
  by_cases h : c
  · rw [if_pos h]; exact ha
  · rw [if_neg h]; exact hb
theorem inR_b {r : Int} (h : r = 0 ∨ r = 1) : inR r := by rcases h with rfl | rfl <;> exact ⟨by decide, by decide⟩
theorem inR_cmpL (x y : Int) : inR (cmpL x y) := by
  unfold cmpL
  split
  · exact ⟨by decide, by decide⟩
  · split <;> exact ⟨by decide, by decide⟩
section MORE
variable {Γ : Gm} {p : Program} {l : Launch} {e : Env} {R : Room} {s : State} {m : MethodId} {args : Array Value} {below : List Frame} {meth : Method} {c : Code} {own : String} {cc : ByteArray} {nL : Nat} {rt : Option FieldType} {n0 : Nat} {Q : State → Prop} {pc : Nat} {L : List (Option aV)} {st : List aV} {n : Nat} {g : aG} {h : aH}
theorem ok_lcmp (a : Ac Γ p s m args meth c own cc nL rt) {x y : Int} (d : decode cc pc = .ok (.lcmp, 1)) (hx : inL x) (hy : inL y) (kk : OK Γ p l e R s m args below meth c n0 Q (pc + 1) L (vI (cmpL x y) :: st) n g h) : OK Γ p l e R s m args below meth c n0 Q pc L (vL y :: vL x :: st) n g h := by
  intro H locs ls hH hS hL
  have k1 := kk H locs ls hH hS hL
  have e : Int32.ofInt (cmpL x y) = lg_cmp (Int64.ofInt x) (Int64.ofInt y) := by
    unfold cmpL lg_cmp
    simp only [gt_iff_lt, Int64.lt_iff_toInt_lt, ← Int64.toInt_inj, i64T hx, i64T hy]
    by_cases h1 : x < y
    · rw [if_pos h1, if_neg (by omega), if_neg (by omega)]; rfl
    · by_cases h2 : x = y
      · rw [if_neg h1, if_pos h2, if_neg (by omega), if_pos h2]; rfl
      · rw [if_neg h1, if_neg h2, if_pos (by omega)]; rfl
  simp only [List.map_cons, enc, e] at k1
  exact W.lcmp a.1 a.2.1 d k1
theorem ok_sI_n (a : Ac Γ p s m args meth c own cc nL rt) {k : Fin 4} {i : Nat} {x : Int} (L' : List (Option aV)) (d : decode cc pc = .ok (.istore_n k, 1)) (hi : (k : Nat) = i) (hn : i < nL) (hg : nlg L i = true) (hL' : L.set i (some (vI x)) = L') (kk : OK Γ p l e R s m args below meth c n0 Q (pc + 1) L' st n g h) : OK Γ p l e R s m args below meth c n0 Q pc L (vI x :: st) n g h := ok_istore_n a d hi hn hg (hL' ▸ kk)
theorem ok_sI (a : Ac Γ p s m args meth c own cc nL rt) {i : Nat} {x : Int} (L' : List (Option aV)) (d : decode cc pc = .ok (.istore i, 2)) (hn : i < nL) (hg : nlg L i = true) (hL' : L.set i (some (vI x)) = L') (kk : OK Γ p l e R s m args below meth c n0 Q (pc + 2) L' st n g h) : OK Γ p l e R s m args below meth c n0 Q pc L (vI x :: st) n g h := ok_istore a d hn hg (hL' ▸ kk)
theorem ok_sL_n (a : Ac Γ p s m args meth c own cc nL rt) {k : Fin 4} {i : Nat} {x : Int} (L' : List (Option aV)) (d : decode cc pc = .ok (.lstore_n k, 1)) (hi : (k : Nat) = i) (hn : i + 1 < nL) (hg : nlg L i = true) (hL' : (L.set i (some (vL x))).set (i + 1) none = L') (kk : OK Γ p l e R s m args below meth c n0 Q (pc + 1) L' st n g h) : OK Γ p l e R s m args below meth c n0 Q pc L (vL x :: st) n g h := ok_lstore_n a d hi hn hg (hL' ▸ kk)
theorem ok_sL (a : Ac Γ p s m args meth c own cc nL rt) {i : Nat} {x : Int} (L' : List (Option aV)) (d : decode cc pc = .ok (.lstore i, 2)) (hn : i + 1 < nL) (hg : nlg L i = true) (hL' : (L.set i (some (vL x))).set (i + 1) none = L') (kk : OK Γ p l e R s m args below meth c n0 Q (pc + 2) L' st n g h) : OK Γ p l e R s m args below meth c n0 Q pc L (vL x :: st) n g h := ok_lstore a d hn hg (hL' ▸ kk)
theorem ok_inc (a : Ac Γ p s m args meth c own cc nL rt) {i : Nat} {k x : Int} (L' : List (Option aV)) (d : decode cc pc = .ok (.iinc i k, 3)) (hl : L[i]? = some (some (vI x))) (hn : i < nL) (hg : nlg L i = true) (hL' : L.set i (some (vI (x + k))) = L') (kk : OK Γ p l e R s m args below meth c n0 Q (pc + 3) L' st n g h) : OK Γ p l e R s m args below meth c n0 Q pc L st n g h := ok_iinc a d hl hn hg (hL' ▸ kk)
/-- a name for the top of the stack -/
theorem ok_nmI {x : Int} (kk : ∀ z, z = x → OK Γ p l e R s m args below meth c n0 Q pc L (vI z :: st) n g h) : OK Γ p l e R s m args below meth c n0 Q pc L (vI x :: st) n g h := kk x rfl
theorem ok_nmL {x : Int} (kk : ∀ z, z = x → OK Γ p l e R s m args below meth c n0 Q pc L (vL z :: st) n g h) : OK Γ p l e R s m args below meth c n0 Q pc L (vL x :: st) n g h := kk x rfl
/-- a name for the heap -/
theorem ok_nmH (kk : ∀ z, z = h → OK Γ p l e R s m args below meth c n0 Q pc L st n g z) : OK Γ p l e R s m args below meth c n0 Q pc L st n g h := kk h rfl
theorem ok_VRI (a : Ac Γ p s m args meth c own cc nL rt) {y : MI} {na idx k ci : Nat} {Qw : Int → aH → Prop} {st0 : List aV} (as st : List aV) (M : Cl Γ l y (vR k :: as) n g h (RI g Qw)) (d : decode cc pc = .ok (.invokevirtual idx, 3)) (lk : LkV own idx y na) (hna : as.length = na) (hk : k < n) (hc : (kd k).1 = ci) (hci : ci < 10) (hC : cC ci = y.1.cls) (hR : y.2.2.2.2 + 1 ≤ R.frames ∧ 8 + (y.2.2.1 + 11) + 40 * y.2.2.2.2 ≤ R.locals) (hn0 : n0 = n) (hst : (st.map catA).sum ≤ 8) (e0 : as.reverse ++ vR k :: st = st0) (kk : ∀ r h1, Qw r h1 → OK Γ p l e R s m args below meth c n0 Q (pc + 3) L (vI r :: st) n g h1) : OK Γ p l e R s m args below meth c n0 Q pc L st0 n g h := by
  subst e0
  refine ok_callV a M d lk hna hk hc hci hC hR hn0 hst (fun v g' h' q => ?_)
  obtain ⟨r, rfl, rfl, hq⟩ := q; exact kk r _ hq
theorem ok_SRI (a : Ac Γ p s m args meth c own cc nL rt) {y : MI} {na idx : Nat} {Qw : Int → aH → Prop} {st0 : List aV} (as st : List aV) (M : Cl Γ l y as n g h (RI g Qw)) (d : decode cc pc = .ok (.invokestatic idx, 3)) (lk : LkS own idx y na) (hna : as.length = na) (hR : y.2.2.2.2 + 1 ≤ R.frames ∧ 8 + (y.2.2.1 + 11) + 40 * y.2.2.2.2 ≤ R.locals) (hn0 : n0 = n) (hst : (st.map catA).sum ≤ 8) (e0 : as.reverse ++ st = st0) (kk : ∀ r h1, Qw r h1 → OK Γ p l e R s m args below meth c n0 Q (pc + 3) L (vI r :: st) n g h1) : OK Γ p l e R s m args below meth c n0 Q pc L st0 n g h := by
  subst e0
  refine ok_callS a M d lk hna hR hn0 hst (fun v g' h' q => ?_)
  obtain ⟨r, rfl, rfl, hq⟩ := q; exact kk r _ hq
theorem ok_VRL (a : Ac Γ p s m args meth c own cc nL rt) {y : MI} {na idx k ci : Nat} {Qw : Int → aH → Prop} {st0 : List aV} (as st : List aV) (M : Cl Γ l y (vR k :: as) n g h (RL' g Qw)) (d : decode cc pc = .ok (.invokevirtual idx, 3)) (lk : LkV own idx y na) (hna : as.length = na) (hk : k < n) (hc : (kd k).1 = ci) (hci : ci < 10) (hC : cC ci = y.1.cls) (hR : y.2.2.2.2 + 1 ≤ R.frames ∧ 8 + (y.2.2.1 + 11) + 40 * y.2.2.2.2 ≤ R.locals) (hn0 : n0 = n) (hst : (st.map catA).sum ≤ 8) (e0 : as.reverse ++ vR k :: st = st0) (kk : ∀ r h1, Qw r h1 → OK Γ p l e R s m args below meth c n0 Q (pc + 3) L (vL r :: st) n g h1) : OK Γ p l e R s m args below meth c n0 Q pc L st0 n g h := by
  subst e0
  refine ok_callV a M d lk hna hk hc hci hC hR hn0 hst (fun v g' h' q => ?_)
  obtain ⟨r, rfl, rfl, hq⟩ := q; exact kk r _ hq
theorem ok_SRL (a : Ac Γ p s m args meth c own cc nL rt) {y : MI} {na idx : Nat} {Qw : Int → aH → Prop} {st0 : List aV} (as st : List aV) (M : Cl Γ l y as n g h (RL' g Qw)) (d : decode cc pc = .ok (.invokestatic idx, 3)) (lk : LkS own idx y na) (hna : as.length = na) (hR : y.2.2.2.2 + 1 ≤ R.frames ∧ 8 + (y.2.2.1 + 11) + 40 * y.2.2.2.2 ≤ R.locals) (hn0 : n0 = n) (hst : (st.map catA).sum ≤ 8) (e0 : as.reverse ++ st = st0) (kk : ∀ r h1, Qw r h1 → OK Γ p l e R s m args below meth c n0 Q (pc + 3) L (vL r :: st) n g h1) : OK Γ p l e R s m args below meth c n0 Q pc L st0 n g h := by
  subst e0
  refine ok_callS a M d lk hna hR hn0 hst (fun v g' h' q => ?_)
  obtain ⟨r, rfl, rfl, hq⟩ := q; exact kk r _ hq
theorem ok_VRV (a : Ac Γ p s m args meth c own cc nL rt) {y : MI} {na idx k ci : Nat} {Qw : aH → Prop} {st0 : List aV} (as st : List aV) (M : Cl Γ l y (vR k :: as) n g h (RV g Qw)) (d : decode cc pc = .ok (.invokevirtual idx, 3)) (lk : LkV own idx y na) (hna : as.length = na) (hk : k < n) (hc : (kd k).1 = ci) (hci : ci < 10) (hC : cC ci = y.1.cls) (hR : y.2.2.2.2 + 1 ≤ R.frames ∧ 8 + (y.2.2.1 + 11) + 40 * y.2.2.2.2 ≤ R.locals) (hn0 : n0 = n) (hst : (st.map catA).sum ≤ 8) (e0 : as.reverse ++ vR k :: st = st0) (kk : ∀ h1, Qw h1 → OK Γ p l e R s m args below meth c n0 Q (pc + 3) L st n g h1) : OK Γ p l e R s m args below meth c n0 Q pc L st0 n g h := by
  subst e0
  refine ok_callV a M d lk hna hk hc hci hC hR hn0 hst (fun v g' h' q => ?_)
  obtain ⟨rfl, rfl, hq⟩ := q; exact kk _ hq
theorem ok_SRV (a : Ac Γ p s m args meth c own cc nL rt) {y : MI} {na idx : Nat} {Qw : aH → Prop} {st0 : List aV} (as st : List aV) (M : Cl Γ l y as n g h (RV g Qw)) (d : decode cc pc = .ok (.invokestatic idx, 3)) (lk : LkS own idx y na) (hna : as.length = na) (hR : y.2.2.2.2 + 1 ≤ R.frames ∧ 8 + (y.2.2.1 + 11) + 40 * y.2.2.2.2 ≤ R.locals) (hn0 : n0 = n) (hst : (st.map catA).sum ≤ 8) (e0 : as.reverse ++ st = st0) (kk : ∀ h1, Qw h1 → OK Γ p l e R s m args below meth c n0 Q (pc + 3) L st n g h1) : OK Γ p l e R s m args below meth c n0 Q pc L st0 n g h := by
  subst e0
  refine ok_callS a M d lk hna hR hn0 hst (fun v g' h' q => ?_)
  obtain ⟨rfl, rfl, hq⟩ := q; exact kk _ hq
theorem ok_VRZ (a : Ac Γ p s m args meth c own cc nL rt) {y : MI} {na idx k ci : Nat} {Qw : Int → aH → Prop} {st0 : List aV} (as st : List aV) (M : Cl Γ l y (vR k :: as) n g h (RZ g Qw)) (d : decode cc pc = .ok (.invokevirtual idx, 3)) (lk : LkV own idx y na) (hna : as.length = na) (hk : k < n) (hc : (kd k).1 = ci) (hci : ci < 10) (hC : cC ci = y.1.cls) (hR : y.2.2.2.2 + 1 ≤ R.frames ∧ 8 + (y.2.2.1 + 11) + 40 * y.2.2.2.2 ≤ R.locals) (hn0 : n0 = n) (hst : (st.map catA).sum ≤ 8) (e0 : as.reverse ++ vR k :: st = st0) (kk : ∀ r h1, (r = 0 ∨ r = 1) → Qw r h1 → OK Γ p l e R s m args below meth c n0 Q (pc + 3) L (vI r :: st) n g h1) : OK Γ p l e R s m args below meth c n0 Q pc L st0 n g h := by
  subst e0
  refine ok_callV a M d lk hna hk hc hci hC hR hn0 hst (fun v g' h' q => ?_)
  obtain ⟨r, rfl, rfl, hz, hq⟩ := q; exact kk r _ hz hq
theorem ok_SRZ (a : Ac Γ p s m args meth c own cc nL rt) {y : MI} {na idx : Nat} {Qw : Int → aH → Prop} {st0 : List aV} (as st : List aV) (M : Cl Γ l y as n g h (RZ g Qw)) (d : decode cc pc = .ok (.invokestatic idx, 3)) (lk : LkS own idx y na) (hna : as.length = na) (hR : y.2.2.2.2 + 1 ≤ R.frames ∧ 8 + (y.2.2.1 + 11) + 40 * y.2.2.2.2 ≤ R.locals) (hn0 : n0 = n) (hst : (st.map catA).sum ≤ 8) (e0 : as.reverse ++ st = st0) (kk : ∀ r h1, (r = 0 ∨ r = 1) → Qw r h1 → OK Γ p l e R s m args below meth c n0 Q (pc + 3) L (vI r :: st) n g h1) : OK Γ p l e R s m args below meth c n0 Q pc L st0 n g h := by
  subst e0
  refine ok_callS a M d lk hna hR hn0 hst (fun v g' h' q => ?_)
  obtain ⟨r, rfl, rfl, hz, hq⟩ := q; exact kk r _ hz hq
theorem ok_VPI (a : Ac Γ p s m args meth c own cc nL rt) {y : MI} {na idx k ci : Nat} {Qw : Int → Prop} {st0 : List aV} (as st : List aV) (M : Cl Γ l y (vR k :: as) n g h (PI g h Qw)) (d : decode cc pc = .ok (.invokevirtual idx, 3)) (lk : LkV own idx y na) (hna : as.length = na) (hk : k < n) (hc : (kd k).1 = ci) (hci : ci < 10) (hC : cC ci = y.1.cls) (hR : y.2.2.2.2 + 1 ≤ R.frames ∧ 8 + (y.2.2.1 + 11) + 40 * y.2.2.2.2 ≤ R.locals) (hn0 : n0 = n) (hst : (st.map catA).sum ≤ 8) (e0 : as.reverse ++ vR k :: st = st0) (kk : ∀ r, Qw r → OK Γ p l e R s m args below meth c n0 Q (pc + 3) L (vI r :: st) n g h) : OK Γ p l e R s m args below meth c n0 Q pc L st0 n g h := by
  subst e0
  refine ok_callV a M d lk hna hk hc hci hC hR hn0 hst (fun v g' h' q => ?_)
  obtain ⟨r, rfl, rfl, rfl, hq⟩ := q; exact kk r hq
theorem ok_SPI (a : Ac Γ p s m args meth c own cc nL rt) {y : MI} {na idx : Nat} {Qw : Int → Prop} {st0 : List aV} (as st : List aV) (M : Cl Γ l y as n g h (PI g h Qw)) (d : decode cc pc = .ok (.invokestatic idx, 3)) (lk : LkS own idx y na) (hna : as.length = na) (hR : y.2.2.2.2 + 1 ≤ R.frames ∧ 8 + (y.2.2.1 + 11) + 40 * y.2.2.2.2 ≤ R.locals) (hn0 : n0 = n) (hst : (st.map catA).sum ≤ 8) (e0 : as.reverse ++ st = st0) (kk : ∀ r, Qw r → OK Γ p l e R s m args below meth c n0 Q (pc + 3) L (vI r :: st) n g h) : OK Γ p l e R s m args below meth c n0 Q pc L st0 n g h := by
  subst e0
  refine ok_callS a M d lk hna hR hn0 hst (fun v g' h' q => ?_)
  obtain ⟨r, rfl, rfl, rfl, hq⟩ := q; exact kk r hq
theorem ok_VPZ (a : Ac Γ p s m args meth c own cc nL rt) {y : MI} {na idx k ci : Nat} {Qw : Int → Prop} {st0 : List aV} (as st : List aV) (M : Cl Γ l y (vR k :: as) n g h (PZ g h Qw)) (d : decode cc pc = .ok (.invokevirtual idx, 3)) (lk : LkV own idx y na) (hna : as.length = na) (hk : k < n) (hc : (kd k).1 = ci) (hci : ci < 10) (hC : cC ci = y.1.cls) (hR : y.2.2.2.2 + 1 ≤ R.frames ∧ 8 + (y.2.2.1 + 11) + 40 * y.2.2.2.2 ≤ R.locals) (hn0 : n0 = n) (hst : (st.map catA).sum ≤ 8) (e0 : as.reverse ++ vR k :: st = st0) (kk : ∀ r, (r = 0 ∨ r = 1) → Qw r → OK Γ p l e R s m args below meth c n0 Q (pc + 3) L (vI r :: st) n g h) : OK Γ p l e R s m args below meth c n0 Q pc L st0 n g h := by
  subst e0
  refine ok_callV a M d lk hna hk hc hci hC hR hn0 hst (fun v g' h' q => ?_)
  obtain ⟨r, rfl, rfl, rfl, hz, hq⟩ := q; exact kk r hz hq
theorem ok_SPZ (a : Ac Γ p s m args meth c own cc nL rt) {y : MI} {na idx : Nat} {Qw : Int → Prop} {st0 : List aV} (as st : List aV) (M : Cl Γ l y as n g h (PZ g h Qw)) (d : decode cc pc = .ok (.invokestatic idx, 3)) (lk : LkS own idx y na) (hna : as.length = na) (hR : y.2.2.2.2 + 1 ≤ R.frames ∧ 8 + (y.2.2.1 + 11) + 40 * y.2.2.2.2 ≤ R.locals) (hn0 : n0 = n) (hst : (st.map catA).sum ≤ 8) (e0 : as.reverse ++ st = st0) (kk : ∀ r, (r = 0 ∨ r = 1) → Qw r → OK Γ p l e R s m args below meth c n0 Q (pc + 3) L (vI r :: st) n g h) : OK Γ p l e R s m args below meth c n0 Q pc L st0 n g h := by
  subst e0
  refine ok_callS a M d lk hna hR hn0 hst (fun v g' h' q => ?_)
  obtain ⟨r, rfl, rfl, rfl, hz, hq⟩ := q; exact kk r hz hq
theorem ok_VPL (a : Ac Γ p s m args meth c own cc nL rt) {y : MI} {na idx k ci : Nat} {Qw : Int → Prop} {st0 : List aV} (as st : List aV) (M : Cl Γ l y (vR k :: as) n g h (PL g h Qw)) (d : decode cc pc = .ok (.invokevirtual idx, 3)) (lk : LkV own idx y na) (hna : as.length = na) (hk : k < n) (hc : (kd k).1 = ci) (hci : ci < 10) (hC : cC ci = y.1.cls) (hR : y.2.2.2.2 + 1 ≤ R.frames ∧ 8 + (y.2.2.1 + 11) + 40 * y.2.2.2.2 ≤ R.locals) (hn0 : n0 = n) (hst : (st.map catA).sum ≤ 8) (e0 : as.reverse ++ vR k :: st = st0) (kk : ∀ r, Qw r → OK Γ p l e R s m args below meth c n0 Q (pc + 3) L (vL r :: st) n g h) : OK Γ p l e R s m args below meth c n0 Q pc L st0 n g h := by
  subst e0
  refine ok_callV a M d lk hna hk hc hci hC hR hn0 hst (fun v g' h' q => ?_)
  obtain ⟨r, rfl, rfl, rfl, hq⟩ := q; exact kk r hq
theorem ok_SPL (a : Ac Γ p s m args meth c own cc nL rt) {y : MI} {na idx : Nat} {Qw : Int → Prop} {st0 : List aV} (as st : List aV) (M : Cl Γ l y as n g h (PL g h Qw)) (d : decode cc pc = .ok (.invokestatic idx, 3)) (lk : LkS own idx y na) (hna : as.length = na) (hR : y.2.2.2.2 + 1 ≤ R.frames ∧ 8 + (y.2.2.1 + 11) + 40 * y.2.2.2.2 ≤ R.locals) (hn0 : n0 = n) (hst : (st.map catA).sum ≤ 8) (e0 : as.reverse ++ st = st0) (kk : ∀ r, Qw r → OK Γ p l e R s m args below meth c n0 Q (pc + 3) L (vL r :: st) n g h) : OK Γ p l e R s m args below meth c n0 Q pc L st0 n g h := by
  subst e0
  refine ok_callS a M d lk hna hR hn0 hst (fun v g' h' q => ?_)
  obtain ⟨r, rfl, rfl, rfl, hq⟩ := q; exact kk r hq
end MORE
