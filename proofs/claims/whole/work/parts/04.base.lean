/-! THE WORLD OF ONE RUN OF THE LAW, as a function from addresses to things: arrays, objects, lists (an ArrayList with the row behind it, as one thing); first: true where the run itself made it (it may be written), false where it stood before (it is only read); then a mark of ours: whose it is. -/
abbrev gA : Type := FieldType × vp_A
abbrev gE : Type := Bool × Nat × (gA ⊕ ((Nat × List Value) ⊕ List Nat))
abbrev gH : Type := Nat → Option gE
abbrev gO : Type := Option Value ⊕ String
abbrev gL : Type := List (Option Value)
abbrev gK : Type := Nat → gL → List Value → gH → Nat → Nat → Prop
abbrev gQ : Type := gO → gH → Prop
abbrev gOp : Type := gK → gQ → gK
def gset (h : gH) (a : Nat) (e : gE) : gH := fun b => if b = a then some e else h b
theorem gset_self (h : gH) (a : Nat) (e : gE) : gset h a e a = some e := if_pos rfl
theorem gset_ne {h : gH} {a b : Nat} {e : gE} (n : b ≠ a) : gset h a e b = h b := if_neg n
/-- the numbers of things in vwCl: ArrayList -/
abbrev ciAL : Nat := 2
def gel (x : (Nat → Int32) ⊕ (Nat → Int64) ⊕ (Nat → UInt32) ⊕ (Nat → UInt64) ⊕ (Nat → Option Nat)) (j : Nat) : Value := match x with
  | .inl f => .int (f j)
  | .inr (.inl f) => .long (f j)
  | .inr (.inr (.inl f)) => .float (f j)
  | .inr (.inr (.inr (.inl f))) => .double (f j)
  | .inr (.inr (.inr (.inr f))) => va_rf (f j)
theorem vp_cell_gel (cA : ClassId) (x : vp_A) : vp_cell cA x = arrV cA x.1 (gel x.2) := by
  obtain ⟨n, f | f | f | f | f⟩ := x <;> rfl
abbrev tObj : FieldType := .object "java/lang/Object"
/-- the address of ArrayList's own empty row -/
def gEd (z : State) (ed : Nat) : Prop := va_Z RJx4a65c "DEFAULTCAPACITY_EMPTY_ELEMENTDATA" "[Ljava/lang/Object;" (.ref ed) (fun q => z.heap.size ≤ q) z z.heap ∧ va_T tObj ed 0 (fun _ => .null) (fun q => z.heap.size ≤ q) z z.heap
def gLst (z : State) (D : va_G) (ed : Nat) (h : gH) (ea : Nat) (a : Nat) (us : List Nat) (H : Heap) : Prop :=
  ∃ md : Int32, va_at D vwCl (a, .inr (ciAL, [.int md, .ref ea, .int (nI us.length)])) H ∧
    ((us = [] ∧ ea = ed ∧ ed < z.heap.size) ∨ (z.heap.size ≤ ea ∧ h ea = none ∧ ∃ (cA : ClassId) (n : Nat) (f : Nat → Option Nat), H[ea]? = some (vp_cell cA (n, .inr (.inr (.inr (.inr f))))) ∧ ArrOfT z cA tObj ∧ va_RA z cA tObj ∧ us.length ≤ n ∧ 10 ≤ n ∧ n ≤ 1000 ∧ ∀ i, i < us.length → f i = us[i]?))
def gAt (z : State) (D : va_G) (ed : Nat) (h : gH) (hid : Nat → Nat) (a : Nat) (e : gE) (H : Heap) : Prop := match e with
  | (true, _, .inl (ty, x)) => z.heap.size ≤ a ∧ ∃ cA : ClassId, H[a]? = some (vp_cell cA x) ∧ ArrOfT z cA ty ∧ va_RA z cA ty
  | (true, _, .inr (.inl o)) => z.heap.size ≤ a ∧ va_at D vwCl (a, .inr o) H
  | (true, _, .inr (.inr us)) => z.heap.size ≤ a ∧ gLst z D ed h (hid a) a us H
  | (false, t, .inl (ty, x)) => (t = 77 → a = ed) ∧ va_T ty a x.1 (gel x.2) (fun q => z.heap.size ≤ q) z z.heap
  | (false, t, .inr (.inl o)) => (t = 78 → vk_R RX6 278 "rojlsexmp" a z) ∧ ∃ r : vw_C, vwCl[o.1]? = some r ∧ va_O r.1 a (fun q => z.heap.size ≤ q) z z.heap ∧ ∀ (k : Nat) (v : Value), k < r.2.2 → o.2[k]? = some v → va_OF (r.2.1 k).1 (r.2.1 k).2.1 (r.2.1 k).2.2.1 v a (fun q => z.heap.size ≤ q) z z.heap
  | (false, _, .inr (.inr _)) => False
def gR (z : State) (D : va_G) (ed : Nat) (h : gH) (H : Heap) : Prop :=
  z.heap.size ≤ H.size ∧ (∀ q : Nat, q < z.heap.size → H[q]? = z.heap[q]?) ∧ ∃ hid : Nat → Nat, (∀ (a : Nat) (e : gE), h a = some e → gAt z D ed h hid a e H) ∧
    ∀ (a b t1 t2 : Nat) (us vs : List Nat), h a = some (true, t1, .inr (.inr us)) → h b = some (true, t2, .inr (.inr vs)) → z.heap.size ≤ hid a → hid a = hid b → a = b
/-- the texts that throws hand over: class file, entry, text -/
def gStr : List (String × Nat × String) := [("Inglenook", 45, "there are 6 users"), ("Inglenook", 312, "there is no such user"), ("Inglenook", 73, "the seconds are not 1 to 600"), ("Inglenook", 85, "the refill is not 0 to 64"), ("Inglenook", 87, "there are 4 rooms"), ("Inglenook", 315, "there is no such room"), ("Inglenook", 105, "the user is a member"), ("Inglenook", 319, "the user is not a member of the room"), ("Inglenook$Text", 21, "there is no such index"), ("Inglenook$Text", 28, "the code is not 32 to 126"), ("Inglenook$Text", 33, "the draft has 20 characters"), ("Inglenook$Text", 36, "the draft is empty"), ("Inglenook", 324, "there is no draft, less than 1 token or no room for a message"), ("Inglenook", 317, "there is no such message"), ("Inglenook", 157, "the message is removed"), ("Inglenook", 167, "the user cannot edit the message any more"), ("Inglenook", 174, "there is no draft or less than half a token"), ("Inglenook", 199, "the user cannot remove the message"), ("Inglenook", 232, "there is no such member"), ("Inglenook", 245, "the room has no members"), ("Inglenook", 247, "there is no such message in the room"), ("Inglenook", 254, "the message has no parent"), ("Inglenook", 262, "there is no such message in the thread"), ("Inglenook", 278, "rojlsexmp"), ("Inglenook", 286, "there is no such kind"), ("Inglenook", 299, "there are no members but the author")]
/-- pairs of kinds of which the first is no second -/
def gNcs : List (String × String) := [("Inglenook", "java/lang/IllegalStateException"), ("java/util/ArrayList", "java/lang/IllegalStateException"), ("Inglenook$Replay", "java/lang/IllegalStateException"), ("InglenookModel", "java/lang/IllegalStateException"), ("Inglenook$User", "java/lang/IllegalStateException"), ("Inglenook$Text", "java/lang/IllegalStateException"), ("Inglenook$Event", "java/lang/IllegalStateException"), ("java/util/NoSuchElementException", "java/lang/IllegalStateException"), ("java/lang/IllegalArgumentException", "java/lang/IllegalStateException"), ("Inglenook$Room", "java/lang/IllegalStateException"), ("Inglenook$Member", "java/lang/IllegalStateException"), ("java/lang/UnsupportedOperationException", "java/lang/IllegalStateException"), ("java/lang/IndexOutOfBoundsException", "java/lang/IllegalStateException"), ("java/lang/ArrayIndexOutOfBoundsException", "java/lang/IllegalStateException"), ("Inglenook$Message", "java/lang/IllegalStateException"), ("java/lang/ArithmeticException", "java/lang/IllegalStateException"), ("Inglenook", "java/util/NoSuchElementException"), ("java/util/ArrayList", "java/util/NoSuchElementException"), ("Inglenook$Replay", "java/util/NoSuchElementException"), ("InglenookModel", "java/util/NoSuchElementException"), ("java/lang/IllegalStateException", "java/util/NoSuchElementException"), ("Inglenook$User", "java/util/NoSuchElementException"), ("Inglenook$Text", "java/util/NoSuchElementException"), ("Inglenook$Event", "java/util/NoSuchElementException"), ("java/lang/IllegalArgumentException", "java/util/NoSuchElementException"), ("Inglenook$Room", "java/util/NoSuchElementException"), ("Inglenook$Member", "java/util/NoSuchElementException"), ("java/lang/UnsupportedOperationException", "java/util/NoSuchElementException"), ("java/lang/IndexOutOfBoundsException", "java/util/NoSuchElementException"), ("java/lang/ArrayIndexOutOfBoundsException", "java/util/NoSuchElementException"), ("Inglenook$Message", "java/util/NoSuchElementException"), ("java/lang/ArithmeticException", "java/util/NoSuchElementException"), ("Inglenook", "java/lang/IllegalArgumentException"), ("java/util/ArrayList", "java/lang/IllegalArgumentException"), ("Inglenook$Replay", "java/lang/IllegalArgumentException"), ("InglenookModel", "java/lang/IllegalArgumentException"), ("java/lang/IllegalStateException", "java/lang/IllegalArgumentException"), ("Inglenook$User", "java/lang/IllegalArgumentException"), ("Inglenook$Text", "java/lang/IllegalArgumentException"), ("Inglenook$Event", "java/lang/IllegalArgumentException"), ("java/util/NoSuchElementException", "java/lang/IllegalArgumentException"), ("Inglenook$Room", "java/lang/IllegalArgumentException"), ("Inglenook$Member", "java/lang/IllegalArgumentException"), ("java/lang/UnsupportedOperationException", "java/lang/IllegalArgumentException"), ("java/lang/IndexOutOfBoundsException", "java/lang/IllegalArgumentException"), ("java/lang/ArrayIndexOutOfBoundsException", "java/lang/IllegalArgumentException"), ("Inglenook$Message", "java/lang/IllegalArgumentException"), ("java/lang/ArithmeticException", "java/lang/IllegalArgumentException"), ("Inglenook", "java/lang/UnsupportedOperationException"), ("java/util/ArrayList", "java/lang/UnsupportedOperationException"), ("Inglenook$Replay", "java/lang/UnsupportedOperationException"), ("InglenookModel", "java/lang/UnsupportedOperationException"), ("java/lang/IllegalStateException", "java/lang/UnsupportedOperationException"), ("Inglenook$User", "java/lang/UnsupportedOperationException"), ("Inglenook$Text", "java/lang/UnsupportedOperationException"), ("Inglenook$Event", "java/lang/UnsupportedOperationException"), ("java/util/NoSuchElementException", "java/lang/UnsupportedOperationException"), ("java/lang/IllegalArgumentException", "java/lang/UnsupportedOperationException"), ("Inglenook$Room", "java/lang/UnsupportedOperationException"), ("Inglenook$Member", "java/lang/UnsupportedOperationException"), ("java/lang/IndexOutOfBoundsException", "java/lang/UnsupportedOperationException"), ("java/lang/ArrayIndexOutOfBoundsException", "java/lang/UnsupportedOperationException"), ("Inglenook$Message", "java/lang/UnsupportedOperationException"), ("java/lang/ArithmeticException", "java/lang/UnsupportedOperationException"), ("Inglenook", "java/lang/IndexOutOfBoundsException"), ("java/util/ArrayList", "java/lang/IndexOutOfBoundsException"), ("Inglenook$Replay", "java/lang/IndexOutOfBoundsException"), ("InglenookModel", "java/lang/IndexOutOfBoundsException"), ("java/lang/IllegalStateException", "java/lang/IndexOutOfBoundsException"), ("Inglenook$User", "java/lang/IndexOutOfBoundsException"), ("Inglenook$Text", "java/lang/IndexOutOfBoundsException"), ("Inglenook$Event", "java/lang/IndexOutOfBoundsException"), ("java/util/NoSuchElementException", "java/lang/IndexOutOfBoundsException"), ("java/lang/IllegalArgumentException", "java/lang/IndexOutOfBoundsException"), ("Inglenook$Room", "java/lang/IndexOutOfBoundsException"), ("Inglenook$Member", "java/lang/IndexOutOfBoundsException"), ("java/lang/UnsupportedOperationException", "java/lang/IndexOutOfBoundsException"), ("Inglenook$Message", "java/lang/IndexOutOfBoundsException"), ("java/lang/ArithmeticException", "java/lang/IndexOutOfBoundsException"), ("Inglenook", "java/lang/ArithmeticException"), ("java/util/ArrayList", "java/lang/ArithmeticException"), ("Inglenook$Replay", "java/lang/ArithmeticException"), ("InglenookModel", "java/lang/ArithmeticException"), ("java/lang/IllegalStateException", "java/lang/ArithmeticException"), ("Inglenook$User", "java/lang/ArithmeticException"), ("Inglenook$Text", "java/lang/ArithmeticException"), ("Inglenook$Event", "java/lang/ArithmeticException"), ("java/util/NoSuchElementException", "java/lang/ArithmeticException"), ("java/lang/IllegalArgumentException", "java/lang/ArithmeticException"), ("Inglenook$Room", "java/lang/ArithmeticException"), ("Inglenook$Member", "java/lang/ArithmeticException"), ("java/lang/UnsupportedOperationException", "java/lang/ArithmeticException"), ("java/lang/IndexOutOfBoundsException", "java/lang/ArithmeticException"), ("java/lang/ArrayIndexOutOfBoundsException", "java/lang/ArithmeticException"), ("Inglenook$Message", "java/lang/ArithmeticException")]
/-- what holds of the law's start z for the whole run; b: the script -/
def gZ (l : Launch) (z : State) (b : Nat) (D : va_G) (ed : Nat) : Prop :=
  l.stackTraces = false ∧ (∀ w ∈ lw_tbl, w.before #[Value.ref b] z = true) ∧ va_K D vwCl [] z ∧ gEd z ed ∧
  vx_Zq Bundle.tN "UNASSIGNED_STACK" Bundle.steD (fun q => z.heap.size ≤ q) z z.heap ∧ vx_Zq Bundle.tN "SUPPRESSED_SENTINEL" Bundle.listD (fun q => z.heap.size ≤ q) z z.heap ∧
  (∀ q ∈ gStr, ∃ a : Nat, vk_R q.1 q.2.1 q.2.2 a z) ∧ (∀ q ∈ gNcs, va_Nc q.1 q.2 z) ∧ va_Z RJ0 "COMPACT_STRINGS" "Z" (.int (nI 1)) (fun q => z.heap.size ≤ q) z z.heap ∧ ∃ mi : Nat, va_Mi "[Ljava/lang/Object;" mi z
/-- a state of the machine where the world is h -/
def gW (z : State) (D : va_G) (ed : Nat) (h : gH) (U : State) : Prop := z.WarmedH U.vm ∧ gR z D ed h U.heap
abbrev gG : Type := Launch × State × Nat × va_G × Nat
def gZZ (G : gG) : Prop := gZ G.1 G.2.1 G.2.2.1 G.2.2.2.1 G.2.2.2.2
def gPc (G : gG) (av : List Value) (h : gH) : Array Value → State → Prop := va_Pc av (gW G.2.1 G.2.2.2.1 G.2.2.2.2 h)
def gQc (G : gG) (Q : gQ) : Array Value → State → Outcome → State → Prop := fun _ st o t => (∃ (v : Option Value) (h : gH), o = .returned v ∧ Q (.inl v) h ∧ gR G.2.1 G.2.2.2.1 G.2.2.2.2 h t.heap) ∧ va_F (fun q => G.2.1.heap.size ≤ q) st t
def gXC (G : gG) (Q : gQ) : String → State → State → Prop := fun E st t => (∃ h : gH, Q (.inr E) h ∧ gR G.2.1 G.2.2.2.1 G.2.2.2.2 h t.heap) ∧ va_F (fun q => G.2.1.heap.size ≤ q) st t
abbrev gRm (d mc ms : Nat) : Room := { frames := d, cells := mc, slots := ms, locals := 40 * d }
/-- METHOD y, CALLED WITH av IN THE WORLD h, COMES BACK OR THROWS WITH Q; at most mc things of ms slots are made; d frames deep -/
def gT (G : gG) (d : Nat) (y : MethodName) (ws : List Cond) (av : List Value) (h : gH) (mc ms : Nat) (Q : gQ) : Prop :=
  vx_Met G.1 y ws (gRm d mc ms) (gPc G av h) (gQc G Q) (gXC G Q) mc ms (fun q => G.2.1.heap.size ≤ q)
theorem gPc_blind (G : gG) (av : List Value) (h : gH) : FrameBlind (gPc G av h) := fun a U g mk q => q
/-! locals by their places -/
def gLv (ls : Array Slot) (nL : Nat) (lv : gL) : Prop := ls.size = nL ∧ lv_wf ls ∧ ∀ (i : Nat) (v : Value), lv[i]? = some (some v) → ls[i]? = some (.val v)
def gAs (lv : gL) : List (Nat × Value) := (List.range lv.length).filterMap fun i => match lv[i]? with
  | some (some v) => some (i, v)
  | _ => none
theorem gAs_mem {lv : gL} {q : Nat × Value} : q ∈ gAs lv ↔ lv[q.1]? = some (some q.2) := by
  obtain ⟨i, v⟩ := q
  unfold gAs
  rw [List.mem_filterMap]
  constructor
  · rintro ⟨j, -, hj⟩
    split at hj
    · rename_i w hw
      cases hj
      exact hw
    · cases hj
  · intro h
    refine ⟨i, List.mem_range.mpr (List.getElem?_eq_some_iff.mp h).1, ?_⟩
    rw [h]
theorem gLv.has {ls : Array Slot} {nL : Nat} {lv : gL} (h : gLv ls nL lv) : lv_has ls nL (gAs lv) := ⟨h.1, h.2.1, fun q hq => h.2.2 q.1 q.2 (gAs_mem.mp hq)⟩
def gcl (lv : gL) (i : Nat) : gL := match i with
  | 0 => lv
  | j + 1 => match lv[j]? with
    | some (some w) => if w.category = 2 then lv.set j none else lv
    | _ => lv
def gst1 (lv : gL) (i : Nat) (v : Value) : gL := (gcl lv i).set i (some v)
def gst2 (lv : gL) (i : Nat) (v : Value) : gL := ((gcl lv i).set i (some v)).set (i + 1) none
theorem gcl_get {lv : gL} {i j : Nat} {v : Value} (h : (gcl lv i)[j]? = some (some v)) : lv[j]? = some (some v) ∧ ¬ (j + 1 = i ∧ v.category = 2) := by
  cases i with
  | zero => exact ⟨h, fun q => by omega⟩
  | succ k =>
    unfold gcl at h
    dsimp only at h
    split at h
    · rename_i w hw
      split at h
      · rename_i hc
        by_cases hj : k = j
        · subst hj
          rw [List.getElem?_set_self (List.getElem?_eq_some_iff.mp hw).1] at h
          cases h
        · rw [List.getElem?_set_ne hj] at h
          exact ⟨h, fun q => hj (by omega)⟩
      · rename_i hc
        refine ⟨h, fun q => ?_⟩
        have hj : j = k := by omega
        subst hj
        rw [hw] at h
        cases h
        exact hc q.2
    · rename_i hw
      refine ⟨h, fun q => ?_⟩
      have hj : j = k := by omega
      subst hj
      exact hw _ h
theorem gst1_get {lv : gL} {i j : Nat} {x v : Value} (h : (gst1 lv i x)[j]? = some (some v)) : (j = i ∧ v = x) ∨ (j ≠ i ∧ lv[j]? = some (some v) ∧ ¬ (j + 1 = i ∧ v.category = 2)) := by
  unfold gst1 at h
  by_cases hj : i = j
  · subst hj
    have hl := (List.getElem?_eq_some_iff.mp h).1
    rw [List.length_set] at hl
    rw [List.getElem?_set_self hl] at h
    cases h
    exact Or.inl ⟨rfl, rfl⟩
  · rw [List.getElem?_set_ne hj] at h
    exact Or.inr ⟨Ne.symm hj, gcl_get h⟩
theorem gst2_get {lv : gL} {i j : Nat} {x v : Value} (h : (gst2 lv i x)[j]? = some (some v)) : (j = i ∧ v = x) ∨ (j ≠ i ∧ j ≠ i + 1 ∧ lv[j]? = some (some v) ∧ ¬ (j + 1 = i ∧ v.category = 2)) := by
  unfold gst2 at h
  by_cases hj : i + 1 = j
  · subst hj
    have hl := (List.getElem?_eq_some_iff.mp h).1
    rw [List.length_set] at hl
    rw [List.getElem?_set_self hl] at h
    cases h
  · rw [List.getElem?_set_ne hj] at h
    rcases gst1_get h with ⟨a, b⟩ | ⟨a, b⟩
    · exact Or.inl ⟨a, b⟩
    · exact Or.inr ⟨a, Ne.symm hj, b⟩
theorem gst1_lv {ls : Array Slot} {nL : Nat} {lv : gL} {i : Nat} {x : Value} (h : lv_has ls nL ((i, x) :: (gAs lv).filter (fun q => !(q.1 == i) && !(q.1 + 1 == i && q.2.category == 2)))) : gLv ls nL (gst1 lv i x) := by
  refine ⟨h.1, h.2.1, fun j v hj => ?_⟩
  rcases gst1_get hj with ⟨rfl, rfl⟩ | ⟨a, b, c⟩
  · exact h.2.2 (j, v) List.mem_cons_self
  · refine h.2.2 (j, v) (List.mem_cons_of_mem _ (List.mem_filter.mpr ⟨gAs_mem.mpr b, ?_⟩))
    by_cases hc : j + 1 = i
    · have : v.category ≠ 2 := fun q => c ⟨hc, q⟩
      simp [a, this]
    · simp [a, hc]
theorem gst2_lv {ls : Array Slot} {nL : Nat} {lv : gL} {i : Nat} {x : Value} (h : lv_has ls nL ((i, x) :: (gAs lv).filter (fun q => !(q.1 == i) && (!(q.1 == i + 1) && !(q.1 + 1 == i && q.2.category == 2))))) : gLv ls nL (gst2 lv i x) := by
  refine ⟨h.1, h.2.1, fun j v hj => ?_⟩
  rcases gst2_get hj with ⟨rfl, rfl⟩ | ⟨a, a2, b, c⟩
  · exact h.2.2 (j, v) List.mem_cons_self
  · refine h.2.2 (j, v) (List.mem_cons_of_mem _ (List.mem_filter.mpr ⟨gAs_mem.mpr b, ?_⟩))
    by_cases hc : j + 1 = i
    · have : v.category ≠ 2 := fun q => c ⟨hc, q⟩
      simp [a, a2, this]
    · simp [a, a2, hc]
def gEnt (vs : List Value) (n : Nat) : gL := (lg_sl vs ++ List.replicate (n - (lg_sl vs).length) Slot.unset).map fun s => match s with
  | .val v => some v
  | _ => none
theorem gEnt_lv (vs : List Value) {n : Nat} (h : (lg_sl vs).length ≤ n) : gLv ((lg_sl vs ++ List.replicate (n - (lg_sl vs).length) Slot.unset).toArray) n (gEnt vs n) := by
  obtain ⟨h1, h2, -⟩ := lv_entry vs h
  refine ⟨h1, h2, fun i v hi => ?_⟩
  unfold gEnt at hi
  rw [List.getElem?_map] at hi
  rw [List.getElem?_toArray]
  cases hs : (lg_sl vs ++ List.replicate (n - (lg_sl vs).length) Slot.unset)[i]? with
  | none => rw [hs] at hi; cases hi
  | some s =>
    rw [hs] at hi
    cases s with
    | val w => cases hi; rfl
    | second => cases hi
    | unset => cases hi
/-- less may be known -/
def gle (a b : gL) : Prop := ∀ (i : Nat) (v : Value), a[i]? = some (some v) → b[i]? = some (some v)
theorem gLv.le {ls : Array Slot} {nL : Nat} {a b : gL} (h : gLv ls nL b) (hl : gle a b) : gLv ls nL a := ⟨h.1, h.2.1, fun i v hi => h.2.2 i v (hl i v hi)⟩
def gmask : List Bool → gL → gL
  | b :: bs, x :: xs => (if b = true then x else none) :: gmask bs xs
  | _, _ => []
theorem gmask_le : ∀ (bs : List Bool) (lv : gL), gle (gmask bs lv) lv
  | [], _, i, v, h => by simp [gmask] at h
  | _ :: _, [], i, v, h => by simp [gmask] at h
  | b :: bs, x :: xs, 0, v, h => by
    rw [gmask, List.getElem?_cons_zero] at h
    cases b
    · cases h
    · exact h
  | b :: bs, x :: xs, i + 1, v, h => by
    rw [gmask, List.getElem?_cons_succ] at h
    rw [List.getElem?_cons_succ]
    exact gmask_le bs xs i v h
