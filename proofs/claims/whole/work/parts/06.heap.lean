/-! THE WORLD UNDER WRITES AND MAKINGS -/
def gup {α : Type} (f : Nat → α) (k : Nat) (x : α) : Nat → α := fun j => if j = k then x else f j
theorem gup_self {α : Type} (f : Nat → α) (k : Nat) (x : α) : gup f k x k = x := if_pos rfl
theorem gup_ne {α : Type} {f : Nat → α} {k j : Nat} {x : α} (n : j ≠ k) : gup f k x j = f j := if_neg n
theorem gAt.lt {z : State} {D : va_G} {ed : Nat} {h : gH} {hid : Nat → Nat} {a : Nat} {e : gE} {H : Heap} (hs : z.heap.size ≤ H.size) (g : gAt z D ed h hid a e H) : a < H.size := by
  obtain ⟨b, tg, e⟩ := e
  cases b with
  | true =>
    rcases e with ⟨ty, x⟩ | o | us
    · obtain ⟨-, cA, h1, -⟩ := g
      exact (Array.getElem?_eq_some_iff.mp h1).1
    · exact va_at.lt g.2
    · obtain ⟨-, md, h1, -⟩ := g
      exact va_at.lt h1
  | false =>
    rcases e with ⟨ty, x⟩ | o | us
    · obtain ⟨-, cell, h1, -⟩ := g
      exact Nat.lt_of_lt_of_le (Array.getElem?_eq_some_iff.mp h1).1 hs
    · obtain ⟨-, r, -, ⟨cell, h1, -⟩, -⟩ := g
      exact Nat.lt_of_lt_of_le (Array.getElem?_eq_some_iff.mp h1).1 hs
    · exact g.elim
theorem gAt.own {z : State} {D : va_G} {ed : Nat} {h : gH} {hid : Nat → Nat} {a : Nat} {e : gA ⊕ ((Nat × List Value) ⊕ List Nat)} {H : Heap} {tg : Nat} (g : gAt z D ed h hid a (true, tg, e) H) : z.heap.size ≤ a := by
  rcases e with ⟨ty, x⟩ | o | us
  · exact g.1
  · exact g.1
  · exact g.1
/-- a thing that no write touched -/
theorem gAt.keep {z : State} {D : va_G} {ed : Nat} {h h1 : gH} {hid hid1 : Nat → Nat} {a : Nat} {e : gE} {H H1 : Heap} (g : gAt z D ed h hid a e H) (ha : H1[a]? = H[a]?) (hh : hid1 a = hid a)
    (hl : ∀ tg us, e = (true, tg, .inr (.inr us)) → z.heap.size ≤ hid a → h (hid a) = none → hid a < H.size → H1[hid a]? = H[hid a]? ∧ h1 (hid a) = none) : gAt z D ed h1 hid1 a e H1 := by
  obtain ⟨b, tg, e⟩ := e
  cases b with
  | true =>
    rcases e with ⟨ty, x⟩ | o | us
    · obtain ⟨g0, cA, h1, h2⟩ := g
      exact ⟨g0, cA, ha.trans h1, h2⟩
    · exact ⟨g.1, g.2.kept ha⟩
    · obtain ⟨g0, md, q1, q2⟩ := g
      rw [← hh] at q1 q2 hl
      refine ⟨g0, md, va_at.kept q1 ha, ?_⟩
      rcases q2 with q2 | ⟨q2, q3, cA, n, f, q4, q5⟩
      · exact Or.inl q2
      · obtain ⟨r1, r2⟩ := hl tg us rfl q2 q3 (Array.getElem?_eq_some_iff.mp q4).1
        exact Or.inr ⟨q2, r2, cA, n, f, r1.trans q4, q5⟩
  | false =>
    rcases e with ⟨ty, x⟩ | o | us
    · exact g
    · exact g
    · exact g.elim
theorem gR.lt {z : State} {D : va_G} {ed : Nat} {h : gH} {H : Heap} (g : gR z D ed h H) {a : Nat} {e : gE} (ha : h a = some e) : a < H.size := by
  obtain ⟨g1, g2, hid, g3, -⟩ := g
  exact (g3 a e ha).lt g1
theorem gR.own {z : State} {D : va_G} {ed : Nat} {h : gH} {H : Heap} (g : gR z D ed h H) {a : Nat} {tg : Nat} {e : gA ⊕ ((Nat × List Value) ⊕ List Nat)} (ha : h a = some (true, tg, e)) : z.heap.size ≤ a := by
  obtain ⟨g1, g2, hid, g3, -⟩ := g
  exact (g3 a _ ha).own
theorem gR.none {z : State} {D : va_G} {ed : Nat} {h : gH} {H : Heap} (g : gR z D ed h H) {a : Nat} (ha : H.size ≤ a) : h a = none := by
  cases q : h a with
  | none => rfl
  | some e => exact absurd (g.lt q) (Nat.not_lt.mpr ha)
/-- a write to a thing that isn't a list, nor becomes one -/
theorem gR.set {z : State} {D : va_G} {ed : Nat} {h : gH} {H H1 : Heap} (g : gR z D ed h H) {a tg : Nat} {e0 e : gA ⊕ (Nat × List Value)} (ha : h a = some (true, tg, e0.elim .inl (fun o => .inr (.inl o)))) (hz : H1.size = H.size) (ho : ∀ q : Nat, q ≠ a → H1[q]? = H[q]?)
    (hn : ∀ (h1 : gH) (hid : Nat → Nat), gAt z D ed h1 hid a (true, tg, e.elim .inl (fun o => .inr (.inl o))) H1) : gR z D ed (gset h a (true, tg, e.elim .inl (fun o => .inr (.inl o)))) H1 := by
  have hown := g.own ha
  obtain ⟨g1, g2, hid, g3, g4⟩ := g
  refine ⟨by omega, fun q hq => (ho q (by omega)).trans (g2 q hq), hid, fun b e' hb => ?_, fun b c t1 t2 us vs hb hc => ?_⟩
  · by_cases hba : b = a
    · subst hba
      rw [gset_self] at hb
      cases hb
      exact hn _ _
    · rw [gset_ne hba] at hb
      refine (g3 b e' hb).keep (ho b hba) rfl (fun _ us he h1 h2 h3 => ?_)
      have hne : hid b ≠ a := fun q => by rw [q, ha] at h2; cases h2
      exact ⟨ho _ hne, by rw [gset_ne hne]; exact h2⟩
  · have na : ∀ (b t1 : Nat) (us : List Nat), gset h a (true, tg, e.elim .inl (fun o => .inr (.inl o))) b = some (true, t1, .inr (.inr us)) → h b = some (true, t1, .inr (.inr us)) := by
      intro b t1 us hb
      by_cases hba : b = a
      · subst hba
        rw [gset_self] at hb
        rcases e with e | e <;> cases hb
      · rwa [gset_ne hba] at hb
    exact g4 b c t1 t2 us vs (na b t1 us hb) (na c t2 vs hc)
/-- a thing is made at the end of the heap -/
theorem gR.new {z : State} {D : va_G} {ed : Nat} {h : gH} {H H1 : Heap} (g : gR z D ed h H) (tg : Nat) {e : gA ⊕ (Nat × List Value)} (hz : H1.size = H.size + 1) (ho : ∀ q : Nat, q < H.size → H1[q]? = H[q]?)
    (hn : ∀ (h1 : gH) (hid : Nat → Nat), gAt z D ed h1 hid H.size (true, tg, e.elim .inl (fun o => .inr (.inl o))) H1) : gR z D ed (gset h H.size (true, tg, e.elim .inl (fun o => .inr (.inl o)))) H1 := by
  have hlt : ∀ (b : Nat) (e' : gE), h b = some e' → b < H.size := fun b e' hb => gR.lt g hb
  obtain ⟨g1, g2, hid, g3, g4⟩ := g
  refine ⟨by omega, fun q hq => (ho q (by omega)).trans (g2 q hq), hid, fun b e' hb => ?_, fun b c t1 t2 us vs hb hc => ?_⟩
  · by_cases hba : b = H.size
    · subst hba
      rw [gset_self] at hb
      cases hb
      exact hn _ _
    · rw [gset_ne hba] at hb
      refine (g3 b e' hb).keep (ho b (hlt b e' hb)) rfl (fun _ us he h1 h2 h3 => ?_)
      have hne : hid b ≠ H.size := by omega
      exact ⟨ho _ h3, by rw [gset_ne hne]; exact h2⟩
  · have na : ∀ (b t1 : Nat) (us : List Nat), gset h H.size (true, tg, e.elim .inl (fun o => .inr (.inl o))) b = some (true, t1, .inr (.inr us)) → h b = some (true, t1, .inr (.inr us)) := by
      intro b t1 us hb
      by_cases hba : b = H.size
      · subst hba
        rw [gset_self] at hb
        rcases e with e | e <;> cases hb
      · rwa [gset_ne hba] at hb
    exact g4 b c t1 t2 us vs (na b t1 us hb) (na c t2 vs hc)
/-- nothing of ours is written or made -/
theorem gR.far {z : State} {D : va_G} {ed : Nat} {h : gH} {H H1 : Heap} (g : gR z D ed h H) (hz : H.size ≤ H1.size) (ho : ∀ q : Nat, q < H.size → H1[q]? = H[q]?) : gR z D ed h H1 := by
  have hlt : ∀ (b : Nat) (e' : gE), h b = some e' → b < H.size := fun b e' hb => gR.lt g hb
  obtain ⟨g1, g2, hid, g3, g4⟩ := g
  refine ⟨by omega, fun q hq => (ho q (by omega)).trans (g2 q hq), hid, fun b e' hb => ?_, g4⟩
  exact (g3 b e' hb).keep (ho b (hlt b e' hb)) rfl (fun _ us he h1 h2 h3 => ⟨ho _ h3, h2⟩)
theorem gR.arr {z : State} {D : va_G} {ed : Nat} {h : gH} {H : Heap} (g : gR z D ed h H) {a : Nat} {b : Bool} {tg : Nat} {ty : FieldType} {x : vp_A} (ha : h a = some (b, tg, .inl (ty, x))) :
    ∃ cell : Cell, H[a]? = some cell ∧ z.isArrayOf cell ty ∧ cell.vm ≠ .unknown ∧ x.1 ≤ cell.slots.size ∧ cell.slots.size.toInt32 = Int32.ofNat x.1 ∧ ∀ j : Nat, j < x.1 → cell.slots[j]? = some (gel x.2 j) := by
  obtain ⟨g1, g2, hid, g3, -⟩ := g
  have q := g3 a _ ha
  cases b with
  | true =>
    obtain ⟨-, cA, h1, h2, -⟩ := q
    rw [vp_cell_gel] at h1
    exact ⟨_, h1, h2 _ _, (fun q => by cases q), (by rw [arrV_size]; exact Nat.le_refl _), (by rw [arrV_size] <;> rfl), fun j hj => arrV_read _ _ hj⟩
  | false =>
    obtain ⟨-, cell, h1, h2, h3, h4, h5, h6, h7⟩ := q
    exact ⟨cell, by rw [g2 a (by omega)]; exact h1, h2, h3, h4, h5, h6⟩
theorem gR.arrW {z : State} {D : va_G} {ed : Nat} {h : gH} {H : Heap} (g : gR z D ed h H) {a tg : Nat} {ty : FieldType} {x : vp_A} (ha : h a = some (true, tg, .inl (ty, x))) : ∃ cA : ClassId, H[a]? = some (vp_cell cA x) ∧ ArrOfT z cA ty ∧ va_RA z cA ty := by
  obtain ⟨g1, g2, hid, g3, -⟩ := g
  exact (g3 a _ ha).2
theorem gR.obj {z : State} {D : va_G} {ed : Nat} {h : gH} {H : Heap} (g : gR z D ed h H) {a tg : Nat} {o : Nat × List Value} (ha : h a = some (true, tg, .inr (.inl o))) : va_at D vwCl (a, .inr o) H := by
  obtain ⟨g1, g2, hid, g3, -⟩ := g
  exact (g3 a _ ha).2
theorem gP1 {D : va_G} {cl : List vw_C} {q : Nat × va_E} {H : Heap} (h : va_at D cl q H) : va_P D cl [q] H := fun k x hk => by
  cases k with
  | zero => cases hk; exact h
  | succ k => rw [List.getElem?_cons_succ] at hk; simp at hk
/-- a thing's number of kind: what a call by it, or a cast, asks -/
def gRcv (h : gH) (b : Nat) (ci : Nat) : Prop := match h b with
  | some (_, _, .inr (.inl (c, _))) => c = ci
  | some (true, _, .inr (.inr _)) => ciAL = ci
  | _ => False
theorem gR.recv {z : State} {D : va_G} {ed : Nat} {h : gH} {H : Heap} (g : gR z D ed h H) {s : State} (hK : va_K D vwCl [] z) (hW : z.vm.Alike s.vm) {b ci : Nat} (hb : gRcv h b ci) {C : String} {T : u_T} {N : Nat} (hc : vwCl[ci]? = some (C, T, N)) : ∃ cell : Cell, H[b]? = some cell ∧ cell.vm.isStatics = false ∧ s.vm.findClass C = some cell.cls := by
  have hK' := va_K.moved hW hK
  unfold gRcv at hb
  split at hb
  · rename_i b0 _ c fs hq
    subst hb
    cases b0 with
    | true => exact va_recv (q0 := 0) hK' (gP1 (gR.obj g hq)) hc rfl
    | false =>
      obtain ⟨g1, g2, hid, g3, -⟩ := g
      obtain ⟨-, r9, h1, ho, -⟩ := g3 b _ hq
      have hr9 : r9 = (C, T, N) := Option.some.inj (h1.symm.trans hc)
      subst hr9
      obtain ⟨cell, e1, e2, e3, e4⟩ := va_O.moved hW ho
      exact ⟨cell, by rw [g2 b (Nat.not_le.mp e4)]; exact e1, e2, e3⟩
  · rename_i _ us hq
    subst hb
    obtain ⟨g1, g2, hid, g3, -⟩ := g
    obtain ⟨-, md, h1, -⟩ := g3 b _ hq
    exact va_recv (q0 := 0) hK' (gP1 h1) hc rfl
  · exact hb.elim
/-- a kind of objects: its name, fields, their number and types -/
def gCls (ci : Nat) (C : String) (T : u_T) (N : Nat) (ty : Nat → FieldType) : Prop := vwCl[ci]? = some (C, T, N) ∧ (∀ w ∈ u_ws C T N, w ∈ lw_tbl) ∧ (∀ k, k < N → parseFieldDescriptor (T k).2.2.1 = some (ty k)) ∧ ∀ a, a < N → ∀ b, b < N → a ≠ b → (T a).2.1 ≠ (T b).2.1
theorem u_lay_good (C : String) (T : u_T) (k : Nat) : goodWord (u_lay C T k) = true := by
  unfold u_lay
  split <;> rfl
theorem gCls.hts {G : gG} {s : State} {args : Array Value} (hz : gZZ G) (hW : G.2.1.WarmedH s.vm) {ci : Nat} {C : String} {T : u_T} {N : Nat} {ty : Nat → FieldType} (h : gCls ci C T N ty) : ∀ w ∈ u_ws C T N, w.before args s = true := by
  intro w hw
  have h2 := h.2.1 w hw
  obtain ⟨k, -, rfl⟩ := List.mem_map.mp hw
  exact gword hz hW h2 (u_lay_good C T k)
theorem gsame {G : gG} {s : State} {args : Array Value} (hz : gZZ G) (hW : G.2.1.WarmedH s.vm) {o ref n dsc : String} (h : o = ref ∨ Cond.sameField ref o n dsc ∈ lw_tbl) : ∀ x, s.fieldFound? o n dsc = some x → s.fieldFound? ref n dsc = some x := by
  intro x hx
  rcases h with rfl | h
  · exact hx
  · exact u_same (args := args) (gword hz hW h rfl) x hx
section GHEAP
variable {own nm : String} {cc : ByteArray} {nL d : Nat} {ret : Option FieldType} {tab : List (Nat × Nat × Nat × Nat)} {pc : Nat}
def gi_getf (ci k : Nat) : gOp := fun K Q pc lv st h kc ks => match st with
  | .ref a :: r => match h a with
    | some (_, _, .inr (.inl (c, fs))) => c = ci ∧ (match fs[k]? with
      | some v => K (pc + 3) lv (v :: r) h kc ks
      | none => False)
    | _ => False
  | _ => False
theorem gs_getf {ci k0 index : Nat} {C ref : String} {T : u_T} {N : Nat} {ty : Nat → FieldType} (hC : gCls ci C T N ty) (hk : k0 < N) (hd : decode cc pc = .ok (.getfield index, 3)) (hw : Cond.fieldLink own index ref (T k0).2.1 (T k0).2.2.1 ∈ lw_tbl) (hsm : (T k0).1 = ref ∨ Cond.sameField ref (T k0).1 (T k0).2.1 (T k0).2.2.1 ∈ lw_tbl) : gSnd (own, cc, nL, ret, nm, tab, d) pc (gi_getf ci k0) := by
  rintro ⟨G, p, e, s, m, args, below, meth, c, d', MC, MS⟩ Q ⟨hz, hd', hx, hb, hml, hr, hlk, hown, hnm, htab, hW, hzs, hzk⟩ K hKK lv st h kc ks k
  intro H locs cells slots ls hl hR hS hc hs
  dsimp only at hb hml hr hlk hown hnm htab hd'
  unfold gi_getf at k
  split at k
  · rename_i a r
    split at k
    · rename_i b0 tg c0 fs hq
      obtain ⟨rfl, k⟩ := k
      split at k
      · rename_i v hv
        have kk := hKK _ _ _ _ _ _ (k) H locs cells slots ls hl hR hS hc hs
        have hts := hC.hts (args := args) hz hW
        cases b0 with
        | true => exact va_get hx hb hts (fun _ h => h) hown (va_K.moved hW.alike hz.2.2.1) (gP1 (hR.obj hq)) 0 rfl hC.1 k0 hk (gword hz hW hw rfl) (gsame (args := args) hz hW hsm) hv hd kk
        | false =>
          obtain ⟨g1, g2, hid, g3, -⟩ := hR
          obtain ⟨-, r9, h1, ⟨cell9, hc9, -⟩, h2⟩ := g3 a _ hq
          have ha : a < G.2.1.heap.size := (Array.getElem?_eq_some_iff.mp hc9).1
          have hr9 : r9 = (C, T, N) := Option.some.inj (h1.symm.trans hC.1)
          subst hr9
          have h3 := va_OF.moved hW.alike (h2 k0 v hk hv)
          obtain ⟨cf, kf, fi, f, cell, e1, e2, e3, e4, e5, e6⟩ := h3
          exact W.getf hx hb hown (gword hz hW hw rfl) (gsame (args := args) hz hW hsm _ e1) e2 (by rw [g2 a ha]; exact e3) e4 e5 rfl rfl hd kk
      · exact k.elim
    · exact k.elim
  · exact k.elim
theorem gs_getfN {ci k0 index : Nat} {C ref host : String} {T : u_T} {N : Nat} {ty : Nat → FieldType} (hC : gCls ci C T N ty) (hk : k0 < N) (hd : decode cc pc = .ok (.getfield index, 3)) (hw : Cond.fieldLinkNest own index ref (T k0).2.1 (T k0).2.2.1 host ∈ lw_tbl) (hsm : (T k0).1 = ref ∨ Cond.sameField ref (T k0).1 (T k0).2.1 (T k0).2.2.1 ∈ lw_tbl) : gSnd (own, cc, nL, ret, nm, tab, d) pc (gi_getf ci k0) := by
  rintro ⟨G, p, e, s, m, args, below, meth, c, d', MC, MS⟩ Q ⟨hz, hd', hx, hb, hml, hr, hlk, hown, hnm, htab, hW, hzs, hzk⟩ K hKK lv st h kc ks k
  intro H locs cells slots ls hl hR hS hc hs
  dsimp only at hb hml hr hlk hown hnm htab hd'
  unfold gi_getf at k
  split at k
  · rename_i a r
    split at k
    · rename_i b0 tg c0 fs hq
      obtain ⟨rfl, k⟩ := k
      split at k
      · rename_i v hv
        have kk := hKK _ _ _ _ _ _ (k) H locs cells slots ls hl hR hS hc hs
        have hts := hC.hts (args := args) hz hW
        cases b0 with
        | true => exact va_getN hx hb hts (fun _ h => h) hown (va_K.moved hW.alike hz.2.2.1) (gP1 (hR.obj hq)) 0 rfl hC.1 k0 hk (va_Nw.use rfl (va_Nw.warmF hW (va_Nw.of rfl (hz.2.1 _ hw)))) (gsame (args := args) hz hW hsm) hv hd kk
        | false =>
          obtain ⟨g1, g2, hid, g3, -⟩ := hR
          obtain ⟨-, r9, h1, ⟨cell9, hc9, -⟩, h2⟩ := g3 a _ hq
          have ha : a < G.2.1.heap.size := (Array.getElem?_eq_some_iff.mp hc9).1
          have hr9 : r9 = (C, T, N) := Option.some.inj (h1.symm.trans hC.1)
          subst hr9
          have h3 := va_OF.moved hW.alike (h2 k0 v hk hv)
          obtain ⟨cf, kf, fi, f, cell, e1, e2, e3, e4, e5, e6⟩ := h3
          exact va_Wgetf hx hb hown (va_Nw.use rfl (va_Nw.warmF hW (va_Nw.of rfl (hz.2.1 _ hw)))) (gsame (args := args) hz hW hsm _ e1) e2 (by rw [g2 a ha]; exact e3) e4 e5 rfl rfl hd kk
      · exact k.elim
    · exact k.elim
  · exact k.elim
/-- a value that a field of this type holds as it is -/
def okf (ty : FieldType) (v : Value) : Prop := narrow ty v = v ∧ fits ty v = true
theorem okf_int (x : Int32) : okf .int (.int x) = True := eq_true ⟨rfl, rfl⟩
theorem okf_float (x : UInt32) : okf .float (.float x) = True := eq_true ⟨rfl, rfl⟩
theorem okf_ref (n : String) (a : Nat) : okf (.object n) (.ref a) = True := eq_true ⟨rfl, rfl⟩
theorem okf_null (n : String) : okf (.object n) .null = True := eq_true ⟨rfl, rfl⟩
theorem okf_arr (n : FieldType) (a : Nat) : okf (.array n) (.ref a) = True := eq_true ⟨rfl, rfl⟩
theorem okf_bool (b : Bool) : okf .boolean (.int (if b = true then nI 1 else nI 0)) = True := eq_true (by cases b <;> exact ⟨by decide +kernel, by decide +kernel⟩)
theorem okf_true : okf .boolean (.int (nI 1)) = True := eq_true ⟨by decide +kernel, by decide +kernel⟩
theorem okf_false : okf .boolean (.int (nI 0)) = True := eq_true ⟨by decide +kernel, by decide +kernel⟩
theorem okf_char {q : Nat} (hq : q < 65536) : okf .char (.int (nI q)) = True := eq_true ⟨(pk_charN hq).1, (pk_charN hq).2⟩
def gi_putf (ci k : Nat) (ty : FieldType) : gOp := fun K Q pc lv st h kc ks => match st with
  | v :: .ref a :: r => match h a with
    | some (true, tg, .inr (.inl (c, fs))) => c = ci ∧ k < fs.length ∧ okf ty v ∧ K (pc + 3) lv r (gset h a (true, tg, .inr (.inl (c, fs.set k v)))) kc ks
    | _ => False
  | _ => False
theorem gs_putf {ci k0 index : Nat} {C ref : String} {T : u_T} {N : Nat} {ty : Nat → FieldType} (hC : gCls ci C T N ty) (hk : k0 < N) (hd : decode cc pc = .ok (.putfield index, 3)) (hw : Cond.fieldLink own index ref (T k0).2.1 (T k0).2.2.1 ∈ lw_tbl) (hsm : (T k0).1 = ref ∨ Cond.sameField ref (T k0).1 (T k0).2.1 (T k0).2.2.1 ∈ lw_tbl) (hfin : (T k0).2.2.2 = false) {tk : FieldType} (htk : ty k0 = tk) : gSnd (own, cc, nL, ret, nm, tab, d) pc (gi_putf ci k0 tk) := by
  rintro ⟨G, p, e, s, m, args, below, meth, c, d', MC, MS⟩ Q ⟨hz, hd', hx, hb, hml, hr, hlk, hown, hnm, htab, hW, hzs, hzk⟩ K hKK lv st h kc ks k
  intro H locs cells slots ls hl hR hS hc hs
  dsimp only at hb hml hr hlk hown hnm htab hd'
  subst htk
  unfold gi_putf at k
  split at k
  · rename_i v a r
    split at k
    · rename_i tg c0 fs hq
      obtain ⟨rfl, hlen, ⟨hn, hfit⟩, k⟩ := k
      have hts := hC.hts (args := args) hz hW
      have hK : va_K G.2.2.2.1 vwCl [] s := va_K.moved hW.alike hz.2.2.1
      have hap := va_apart (own := own) hts (fun _ h => h) ty hC.2.2.1 hC.2.2.2 hK hC.1
      obtain ⟨r9, h1, cell, q1, q2, q3, q4⟩ := hR.obj hq
      have hr9 : r9 = (C, T, N) := Option.some.inj (h1.symm.trans hC.1)
      subst hr9
      obtain ⟨hS9, hfc, kC, hkC, hkind⟩ := hK.1 c0 _ hC.1
      obtain ⟨cf, kf, fi, f, hi, hsl⟩ := hS9 k0 hk
      have hlay := hts _ (u_in_lay hk)
      unfold u_lay at hlay
      rw [if_neg (by rw [hfin]; decide)] at hlay
      have hst := (u_facts hfc hkC (u_lays hts (fun _ h => h) hk) hi).1
      have h6 := u_store hfc hkC hkind hlay hi (hC.2.2.1 k0 hk) hn hfit
      refine W.putK hx hb (f := f) ⟨hown, gword hz hW hw rfl, ⟨_, _, _, gsame (args := args) hz hW hsm _ hi⟩, hst⟩ (by rw [q2]; exact h6) q1 q3 (by rw [hsl]; exact k2_hasslot (q4 k0 hk)) rfl rfl hd fun H' e1 e2 e3 => ?_
      rw [hsl] at e1 ⊢
      exact hKK _ _ _ _ _ _ k H' _ cells slots ls hl (hR.set (e0 := .inr (c0, fs)) (e := .inr (c0, fs.set k0 v)) hq e2 e3 (fun h1 hid => ⟨hR.own hq, _, hC.1, t_OB.to (V := updV (vp_V fs) k0 v) ⟨_, e1, q2, q3, t_set q4 hap hk v⟩ (fun j _ => vp_updV_set hlen v j)⟩)) (hS.put e2 e3 (hR.own hq)) hc hs
    · exact k.elim
  · exact k.elim
theorem gs_putfN {ci k0 index : Nat} {C ref host : String} {T : u_T} {N : Nat} {ty : Nat → FieldType} (hC : gCls ci C T N ty) (hk : k0 < N) (hd : decode cc pc = .ok (.putfield index, 3)) (hw : Cond.fieldLinkNest own index ref (T k0).2.1 (T k0).2.2.1 host ∈ lw_tbl) (hsm : (T k0).1 = ref ∨ Cond.sameField ref (T k0).1 (T k0).2.1 (T k0).2.2.1 ∈ lw_tbl) (hfin : (T k0).2.2.2 = false) {tk : FieldType} (htk : ty k0 = tk) : gSnd (own, cc, nL, ret, nm, tab, d) pc (gi_putf ci k0 tk) := by
  rintro ⟨G, p, e, s, m, args, below, meth, c, d', MC, MS⟩ Q ⟨hz, hd', hx, hb, hml, hr, hlk, hown, hnm, htab, hW, hzs, hzk⟩ K hKK lv st h kc ks k
  intro H locs cells slots ls hl hR hS hc hs
  dsimp only at hb hml hr hlk hown hnm htab hd'
  subst htk
  unfold gi_putf at k
  split at k
  · rename_i v a r
    split at k
    · rename_i tg c0 fs hq
      obtain ⟨rfl, hlen, ⟨hn, hfit⟩, k⟩ := k
      have hts := hC.hts (args := args) hz hW
      have hK : va_K G.2.2.2.1 vwCl [] s := va_K.moved hW.alike hz.2.2.1
      have hap := va_apart (own := own) hts (fun _ h => h) ty hC.2.2.1 hC.2.2.2 hK hC.1
      obtain ⟨r9, h1, cell, q1, q2, q3, q4⟩ := hR.obj hq
      have hr9 : r9 = (C, T, N) := Option.some.inj (h1.symm.trans hC.1)
      subst hr9
      obtain ⟨hS9, hfc, kC, hkC, hkind⟩ := hK.1 c0 _ hC.1
      obtain ⟨cf, kf, fi, f, hi, hsl⟩ := hS9 k0 hk
      have hlay := hts _ (u_in_lay hk)
      unfold u_lay at hlay
      rw [if_neg (by rw [hfin]; decide)] at hlay
      have hst := (u_facts hfc hkC (u_lays hts (fun _ h => h) hk) hi).1
      have h6 := u_store hfc hkC hkind hlay hi (hC.2.2.1 k0 hk) hn hfit
      refine va_WputK hx hb (f := f) hown (va_Nw.use rfl (va_Nw.warmF hW (va_Nw.of rfl (hz.2.1 _ hw)))) (gsame (args := args) hz hW hsm _ hi) hst (by rw [q2]; exact h6) q1 q3 (by rw [hsl]; exact k2_hasslot (q4 k0 hk)) rfl rfl hd fun H' e1 e2 e3 => ?_
      rw [hsl] at e1 ⊢
      exact hKK _ _ _ _ _ _ k H' _ cells slots ls hl (hR.set (e0 := .inr (c0, fs)) (e := .inr (c0, fs.set k0 v)) hq e2 e3 (fun h1 hid => ⟨hR.own hq, _, hC.1, t_OB.to (V := updV (vp_V fs) k0 v) ⟨_, e1, q2, q3, t_set q4 hap hk v⟩ (fun j _ => vp_updV_set hlen v j)⟩)) (hS.put e2 e3 (hR.own hq)) hc hs
    · exact k.elim
  · exact k.elim
theorem gs_putfF {ci k0 index : Nat} {C ref : String} {T : u_T} {N : Nat} {ty : Nat → FieldType} (hC : gCls ci C T N ty) (hk : k0 < N) (hd : decode cc pc = .ok (.putfield index, 3)) (hw : Cond.fieldLink own index ref (T k0).2.1 (T k0).2.2.1 ∈ lw_tbl) (hsm : (T k0).1 = ref ∨ Cond.sameField ref (T k0).1 (T k0).2.1 (T k0).2.2.1 ∈ lw_tbl) (hfin : (T k0).2.2.2 = true) {tk : FieldType} (htk : ty k0 = tk) (hdecl : (T k0).1 = own) (hin2 : nm = "<init>") : gSnd (own, cc, nL, ret, nm, tab, d) pc (gi_putf ci k0 tk) := by
  rintro ⟨G, p, e, s, m, args, below, meth, c, d', MC, MS⟩ Q ⟨hz, hd', hx, hb, hml, hr, hlk, hown, hnm, htab, hW, hzs, hzk⟩ K hKK lv st h kc ks k
  intro H locs cells slots ls hl hR hS hc hs
  dsimp only at hb hml hr hlk hown hnm htab hd'
  subst htk
  unfold gi_putf at k
  split at k
  · rename_i v a r
    split at k
    · rename_i tg c0 fs hq
      obtain ⟨rfl, hlen, ⟨hn, hfit⟩, k⟩ := k
      have hts := hC.hts (args := args) hz hW
      have hK : va_K G.2.2.2.1 vwCl [] s := va_K.moved hW.alike hz.2.2.1
      have hap := va_apart (own := own) hts (fun _ h => h) ty hC.2.2.1 hC.2.2.2 hK hC.1
      obtain ⟨r9, h1, cell, q1, q2, q3, q4⟩ := hR.obj hq
      have hr9 : r9 = (C, T, N) := Option.some.inj (h1.symm.trans hC.1)
      subst hr9
      obtain ⟨hS9, hfc, kC, hkC, hkind⟩ := hK.1 c0 _ hC.1
      obtain ⟨cf, kf, fi, f, hi, hsl⟩ := hS9 k0 hk
      have hlay := hts _ (u_in_lay hk)
      unfold u_lay at hlay
      rw [if_pos hfin] at hlay
      have hst := (u_facts hfc hkC (u_lays hts (fun _ h => h) hk) hi).1
      have hcf : m.cls = cf := by
        obtain ⟨_, _, c', _, _, _, -, -, hf', -, -, -, hown2, -⟩ := Cond.laysFinal_spec hlay
        have e1 : c' = cf := by have := hi.symm.trans hf'; simp at this; exact this.1.symm
        rw [hdecl] at hown2
        rw [← e1]; exact Option.some.inj (hown.symm.trans hown2)
      have h6 := u_fits hfc hkC hkind (Or.inr hlay) hi (hC.2.2.1 k0 hk) hn hfit
      refine W.putFinK hx hb hown (gword hz hW hw rfl) (gsame (args := args) hz hW hsm _ hi) hst hcf (hnm.trans hin2) (by rw [q2]; exact h6) q1 q3 (by rw [hsl]; exact k2_hasslot (q4 k0 hk)) rfl rfl hd fun H' e1 e2 e3 => ?_
      rw [hsl] at e1 ⊢
      exact hKK _ _ _ _ _ _ k H' _ cells slots ls hl (hR.set (e0 := .inr (c0, fs)) (e := .inr (c0, fs.set k0 v)) hq e2 e3 (fun h1 hid => ⟨hR.own hq, _, hC.1, t_OB.to (V := updV (vp_V fs) k0 v) ⟨_, e1, q2, q3, t_set q4 hap hk v⟩ (fun j _ => vp_updV_set hlen v j)⟩)) (hS.put e2 e3 (hR.own hq)) hc hs
    · exact k.elim
  · exact k.elim
def gi_alen  : gOp := fun K Q pc lv st h kc ks => match st with
  | .ref a :: r => match h a with
    | some (_, _, .inl (_, x)) => K (pc + 1) lv (.int (nI x.1) :: r) h kc ks
    | _ => False
  | _ => False
theorem gs_alen (hd : decode cc pc = .ok (.arraylength, 1)) : gSnd (own, cc, nL, ret, nm, tab, d) pc (gi_alen) := by
  rintro ⟨G, p, e, s, m, args, below, meth, c, d', MC, MS⟩ Q ⟨hz, hd', hx, hb, hml, hr, hlk, hown, hnm, htab, hW, hzs, hzk⟩ K hKK lv st h kc ks k
  intro H locs cells slots ls hl hR hS hc hs
  dsimp only at hb hml hr hlk hown hnm htab hd'
  unfold gi_alen at k
  split at k
  · split at k
    · rename_i hq
      obtain ⟨cell, h1, h2, h3, h4, h5, h6⟩ := hR.arr hq
      exact W.alen (n := nI _) hx hb h1 (State.isArrayOf_alike hW.alike h2) h5 rfl rfl hd (hKK _ _ _ _ _ _ (k) H locs cells slots ls hl hR hS hc hs)
    · exact k.elim
  · exact k.elim
def gi_iald  : gOp := fun K Q pc lv st h kc ks => match st with
  | .int i :: .ref a :: r => match h a with
    | some (_, _, .inl (ty, n, .inl f)) => ty = .int ∧ vp_in i n ∧ K (pc + 1) lv (.int (f i.toNatClampNeg) :: r) h kc ks
    | _ => False
  | _ => False
theorem gs_iald (hd : decode cc pc = .ok (.iaload, 1)) : gSnd (own, cc, nL, ret, nm, tab, d) pc (gi_iald) := by
  rintro ⟨G, p, e, s, m, args, below, meth, c, d', MC, MS⟩ Q ⟨hz, hd', hx, hb, hml, hr, hlk, hown, hnm, htab, hW, hzs, hzk⟩ K hKK lv st h kc ks k
  intro H locs cells slots ls hl hR hS hc hs
  dsimp only at hb hml hr hlk hown hnm htab hd'
  unfold gi_iald at k
  split at k
  · rename_i i a r
    split at k
    · rename_i b0 tg ty0 n f hq
      obtain ⟨rfl, hin, k⟩ := k
      obtain ⟨cell, h1, h2, h3, h4, h5, h6⟩ := hR.arr hq
      have hlt : i.toNatClampNeg < n := Nat.not_le.mp fun q => hin (Or.inr q)
      exact W.iald (v := .int (f i.toNatClampNeg)) hx hb h1 (State.isArrayOf_alike hW.alike h2) h3 (fun q => q.elim (fun q => hin (Or.inl q)) (fun q => by omega)) (h6 _ hlt) rfl rfl hd (hKK _ _ _ _ _ _ (k) H locs cells slots ls hl hR hS hc hs)
    · exact k.elim
  · exact k.elim
def gi_iast  : gOp := fun K Q pc lv st h kc ks => match st with
  | .int x :: .int i :: .ref a :: r => match h a with
    | some (true, tg, .inl (ty, n, .inl f)) => ty = .int ∧ vp_in i n ∧ K (pc + 1) lv r (gset h a (true, tg, .inl (ty, n, .inl (gup f i.toNatClampNeg x)))) kc ks
    | _ => False
  | _ => False
theorem gs_iast (hd : decode cc pc = .ok (.iastore, 1)) : gSnd (own, cc, nL, ret, nm, tab, d) pc (gi_iast) := by
  rintro ⟨G, p, e, s, m, args, below, meth, c, d', MC, MS⟩ Q ⟨hz, hd', hx, hb, hml, hr, hlk, hown, hnm, htab, hW, hzs, hzk⟩ K hKK lv st h kc ks k
  intro H locs cells slots ls hl hR hS hc hs
  dsimp only at hb hml hr hlk hown hnm htab hd'
  unfold gi_iast at k
  split at k
  · rename_i x i a r
    split at k
    · rename_i tg ty0 n f hq
      obtain ⟨rfl, hin, k⟩ := k
      obtain ⟨cA, h1, h2, h3⟩ := hR.arrW hq
      refine W.iast hx hb h1 ((arrOfT_moved hW.alike h2) n _) (fun q => by cases q) (by show ¬ (i < 0 ∨ (arrV _ _ _).slots.size ≤ _); rw [arrV_size]; exact hin) rfl rfl hd fun H1 e1 e2 e3 => ?_
      refine hKK _ _ _ _ _ _ k H1 _ cells slots ls hl (hR.set (e0 := .inl (.int, n, .inl f)) (e := .inl (.int, n, .inl (gup f i.toNatClampNeg x))) hq e2 e3 (fun h1 hid => ⟨hR.own hq, cA, ?_, h2, h3⟩)) (hS.put e2 e3 (hR.own hq)) hc hs
      rw [e1, vp_cell_gel, vp_cell_gel, arrV_store]
      congr 2
      funext q
      by_cases hq : q = i.toNatClampNeg
      · subst hq
        simp [updV, gup, gel]
        try rfl
      · simp [updV, gup, gel, hq]
    · exact k.elim
  · exact k.elim
def gi_zald  : gOp := fun K Q pc lv st h kc ks => match st with
  | .int i :: .ref a :: r => match h a with
    | some (_, _, .inl (ty, n, .inl f)) => ty = .boolean ∧ vp_in i n ∧ K (pc + 1) lv (.int (f i.toNatClampNeg) :: r) h kc ks
    | _ => False
  | _ => False
theorem gs_zald (hd : decode cc pc = .ok (.baload, 1)) : gSnd (own, cc, nL, ret, nm, tab, d) pc (gi_zald) := by
  rintro ⟨G, p, e, s, m, args, below, meth, c, d', MC, MS⟩ Q ⟨hz, hd', hx, hb, hml, hr, hlk, hown, hnm, htab, hW, hzs, hzk⟩ K hKK lv st h kc ks k
  intro H locs cells slots ls hl hR hS hc hs
  dsimp only at hb hml hr hlk hown hnm htab hd'
  unfold gi_zald at k
  split at k
  · rename_i i a r
    split at k
    · rename_i b0 tg ty0 n f hq
      obtain ⟨rfl, hin, k⟩ := k
      obtain ⟨cell, h1, h2, h3, h4, h5, h6⟩ := hR.arr hq
      have hlt : i.toNatClampNeg < n := Nat.not_le.mp fun q => hin (Or.inr q)
      exact W.zald (v := .int (f i.toNatClampNeg)) hx hb h1 (State.isArrayOf_alike hW.alike h2) h3 (fun q => q.elim (fun q => hin (Or.inl q)) (fun q => by omega)) (h6 _ hlt) rfl rfl hd (hKK _ _ _ _ _ _ (k) H locs cells slots ls hl hR hS hc hs)
    · exact k.elim
  · exact k.elim
def gi_zast  : gOp := fun K Q pc lv st h kc ks => match st with
  | .int x :: .int i :: .ref a :: r => match h a with
    | some (true, tg, .inl (ty, n, .inl f)) => ty = .boolean ∧ vp_in i n ∧ K (pc + 1) lv r (gset h a (true, tg, .inl (ty, n, .inl (gup f i.toNatClampNeg (vp_nar .boolean x))))) kc ks
    | _ => False
  | _ => False
theorem gs_zast (hd : decode cc pc = .ok (.bastore, 1)) : gSnd (own, cc, nL, ret, nm, tab, d) pc (gi_zast) := by
  rintro ⟨G, p, e, s, m, args, below, meth, c, d', MC, MS⟩ Q ⟨hz, hd', hx, hb, hml, hr, hlk, hown, hnm, htab, hW, hzs, hzk⟩ K hKK lv st h kc ks k
  intro H locs cells slots ls hl hR hS hc hs
  dsimp only at hb hml hr hlk hown hnm htab hd'
  unfold gi_zast at k
  split at k
  · rename_i x i a r
    split at k
    · rename_i tg ty0 n f hq
      obtain ⟨rfl, hin, k⟩ := k
      obtain ⟨cA, h1, h2, h3⟩ := hR.arrW hq
      refine W.zast hx hb h1 ((arrOfT_moved hW.alike h2) n _) (fun q => by cases q) (by show ¬ (i < 0 ∨ (arrV _ _ _).slots.size ≤ _); rw [arrV_size]; exact hin) rfl rfl hd fun H1 e1 e2 e3 => ?_
      refine hKK _ _ _ _ _ _ k H1 _ cells slots ls hl (hR.set (e0 := .inl (.boolean, n, .inl f)) (e := .inl (.boolean, n, .inl (gup f i.toNatClampNeg (vp_nar .boolean x)))) hq e2 e3 (fun h1 hid => ⟨hR.own hq, cA, ?_, h2, h3⟩)) (hS.put e2 e3 (hR.own hq)) hc hs
      rw [e1, vp_cell_gel, vp_cell_gel, arrV_store]
      congr 2
      funext q
      by_cases hq : q = i.toNatClampNeg
      · subst hq
        simp [updV, gup, gel, vp_nar]
        try rfl
      · simp [updV, gup, gel, hq]
    · exact k.elim
  · exact k.elim
def gi_bald  : gOp := fun K Q pc lv st h kc ks => match st with
  | .int i :: .ref a :: r => match h a with
    | some (_, _, .inl (ty, n, .inl f)) => ty = .byte ∧ vp_in i n ∧ K (pc + 1) lv (.int (f i.toNatClampNeg) :: r) h kc ks
    | _ => False
  | _ => False
theorem gs_bald (hd : decode cc pc = .ok (.baload, 1)) : gSnd (own, cc, nL, ret, nm, tab, d) pc (gi_bald) := by
  rintro ⟨G, p, e, s, m, args, below, meth, c, d', MC, MS⟩ Q ⟨hz, hd', hx, hb, hml, hr, hlk, hown, hnm, htab, hW, hzs, hzk⟩ K hKK lv st h kc ks k
  intro H locs cells slots ls hl hR hS hc hs
  dsimp only at hb hml hr hlk hown hnm htab hd'
  unfold gi_bald at k
  split at k
  · rename_i i a r
    split at k
    · rename_i b0 tg ty0 n f hq
      obtain ⟨rfl, hin, k⟩ := k
      obtain ⟨cell, h1, h2, h3, h4, h5, h6⟩ := hR.arr hq
      have hlt : i.toNatClampNeg < n := Nat.not_le.mp fun q => hin (Or.inr q)
      exact W.bald (v := .int (f i.toNatClampNeg)) hx hb h1 (State.isArrayOf_alike hW.alike h2) h3 (fun q => q.elim (fun q => hin (Or.inl q)) (fun q => by omega)) (h6 _ hlt) rfl rfl hd (hKK _ _ _ _ _ _ (k) H locs cells slots ls hl hR hS hc hs)
    · exact k.elim
  · exact k.elim
def gi_cald  : gOp := fun K Q pc lv st h kc ks => match st with
  | .int i :: .ref a :: r => match h a with
    | some (_, _, .inl (ty, n, .inl f)) => ty = .char ∧ vp_in i n ∧ K (pc + 1) lv (.int (f i.toNatClampNeg) :: r) h kc ks
    | _ => False
  | _ => False
theorem gs_cald (hd : decode cc pc = .ok (.caload, 1)) : gSnd (own, cc, nL, ret, nm, tab, d) pc (gi_cald) := by
  rintro ⟨G, p, e, s, m, args, below, meth, c, d', MC, MS⟩ Q ⟨hz, hd', hx, hb, hml, hr, hlk, hown, hnm, htab, hW, hzs, hzk⟩ K hKK lv st h kc ks k
  intro H locs cells slots ls hl hR hS hc hs
  dsimp only at hb hml hr hlk hown hnm htab hd'
  unfold gi_cald at k
  split at k
  · rename_i i a r
    split at k
    · rename_i b0 tg ty0 n f hq
      obtain ⟨rfl, hin, k⟩ := k
      obtain ⟨cell, h1, h2, h3, h4, h5, h6⟩ := hR.arr hq
      have hlt : i.toNatClampNeg < n := Nat.not_le.mp fun q => hin (Or.inr q)
      exact W.cald (v := .int (f i.toNatClampNeg)) hx hb h1 (State.isArrayOf_alike hW.alike h2) h3 (fun q => q.elim (fun q => hin (Or.inl q)) (fun q => by omega)) (h6 _ hlt) rfl rfl hd (hKK _ _ _ _ _ _ (k) H locs cells slots ls hl hR hS hc hs)
    · exact k.elim
  · exact k.elim
def gi_cast  : gOp := fun K Q pc lv st h kc ks => match st with
  | .int x :: .int i :: .ref a :: r => match h a with
    | some (true, tg, .inl (ty, n, .inl f)) => ty = .char ∧ vp_in i n ∧ K (pc + 1) lv r (gset h a (true, tg, .inl (ty, n, .inl (gup f i.toNatClampNeg (vp_nar .char x))))) kc ks
    | _ => False
  | _ => False
theorem gs_cast (hd : decode cc pc = .ok (.castore, 1)) : gSnd (own, cc, nL, ret, nm, tab, d) pc (gi_cast) := by
  rintro ⟨G, p, e, s, m, args, below, meth, c, d', MC, MS⟩ Q ⟨hz, hd', hx, hb, hml, hr, hlk, hown, hnm, htab, hW, hzs, hzk⟩ K hKK lv st h kc ks k
  intro H locs cells slots ls hl hR hS hc hs
  dsimp only at hb hml hr hlk hown hnm htab hd'
  unfold gi_cast at k
  split at k
  · rename_i x i a r
    split at k
    · rename_i tg ty0 n f hq
      obtain ⟨rfl, hin, k⟩ := k
      obtain ⟨cA, h1, h2, h3⟩ := hR.arrW hq
      refine W.cast hx hb h1 ((arrOfT_moved hW.alike h2) n _) (fun q => by cases q) (by show ¬ (i < 0 ∨ (arrV _ _ _).slots.size ≤ _); rw [arrV_size]; exact hin) rfl rfl hd fun H1 e1 e2 e3 => ?_
      refine hKK _ _ _ _ _ _ k H1 _ cells slots ls hl (hR.set (e0 := .inl (.char, n, .inl f)) (e := .inl (.char, n, .inl (gup f i.toNatClampNeg (vp_nar .char x)))) hq e2 e3 (fun h1 hid => ⟨hR.own hq, cA, ?_, h2, h3⟩)) (hS.put e2 e3 (hR.own hq)) hc hs
      rw [e1, vp_cell_gel, vp_cell_gel, arrV_store]
      congr 2
      funext q
      by_cases hq : q = i.toNatClampNeg
      · subst hq
        simp [updV, gup, gel, vp_nar]
        try rfl
      · simp [updV, gup, gel, hq]
    · exact k.elim
  · exact k.elim
def gi_lald  : gOp := fun K Q pc lv st h kc ks => match st with
  | .int i :: .ref a :: r => match h a with
    | some (_, _, .inl (ty, n, .inr (.inl f))) => ty = .long ∧ vp_in i n ∧ K (pc + 1) lv (.long (f i.toNatClampNeg) :: r) h kc ks
    | _ => False
  | _ => False
theorem gs_lald (hd : decode cc pc = .ok (.laload, 1)) : gSnd (own, cc, nL, ret, nm, tab, d) pc (gi_lald) := by
  rintro ⟨G, p, e, s, m, args, below, meth, c, d', MC, MS⟩ Q ⟨hz, hd', hx, hb, hml, hr, hlk, hown, hnm, htab, hW, hzs, hzk⟩ K hKK lv st h kc ks k
  intro H locs cells slots ls hl hR hS hc hs
  dsimp only at hb hml hr hlk hown hnm htab hd'
  unfold gi_lald at k
  split at k
  · rename_i i a r
    split at k
    · rename_i b0 tg ty0 n f hq
      obtain ⟨rfl, hin, k⟩ := k
      obtain ⟨cell, h1, h2, h3, h4, h5, h6⟩ := hR.arr hq
      have hlt : i.toNatClampNeg < n := Nat.not_le.mp fun q => hin (Or.inr q)
      exact W.lald (v := .long (f i.toNatClampNeg)) hx hb h1 (State.isArrayOf_alike hW.alike h2) h3 (fun q => q.elim (fun q => hin (Or.inl q)) (fun q => by omega)) (h6 _ hlt) rfl rfl hd (hKK _ _ _ _ _ _ (k) H locs cells slots ls hl hR hS hc hs)
    · exact k.elim
  · exact k.elim
def gi_last  : gOp := fun K Q pc lv st h kc ks => match st with
  | .long x :: .int i :: .ref a :: r => match h a with
    | some (true, tg, .inl (ty, n, .inr (.inl f))) => ty = .long ∧ vp_in i n ∧ K (pc + 1) lv r (gset h a (true, tg, .inl (ty, n, .inr (.inl (gup f i.toNatClampNeg x))))) kc ks
    | _ => False
  | _ => False
theorem gs_last (hd : decode cc pc = .ok (.lastore, 1)) : gSnd (own, cc, nL, ret, nm, tab, d) pc (gi_last) := by
  rintro ⟨G, p, e, s, m, args, below, meth, c, d', MC, MS⟩ Q ⟨hz, hd', hx, hb, hml, hr, hlk, hown, hnm, htab, hW, hzs, hzk⟩ K hKK lv st h kc ks k
  intro H locs cells slots ls hl hR hS hc hs
  dsimp only at hb hml hr hlk hown hnm htab hd'
  unfold gi_last at k
  split at k
  · rename_i x i a r
    split at k
    · rename_i tg ty0 n f hq
      obtain ⟨rfl, hin, k⟩ := k
      obtain ⟨cA, h1, h2, h3⟩ := hR.arrW hq
      refine W.last hx hb h1 ((arrOfT_moved hW.alike h2) n _) (fun q => by cases q) (by show ¬ (i < 0 ∨ (arrV _ _ _).slots.size ≤ _); rw [arrV_size]; exact hin) rfl rfl hd fun H1 e1 e2 e3 => ?_
      refine hKK _ _ _ _ _ _ k H1 _ cells slots ls hl (hR.set (e0 := .inl (.long, n, .inr (.inl f))) (e := .inl (.long, n, .inr (.inl (gup f i.toNatClampNeg x)))) hq e2 e3 (fun h1 hid => ⟨hR.own hq, cA, ?_, h2, h3⟩)) (hS.put e2 e3 (hR.own hq)) hc hs
      rw [e1, vp_cell_gel, vp_cell_gel, arrV_store]
      congr 2
      funext q
      by_cases hq : q = i.toNatClampNeg
      · subst hq
        simp [updV, gup, gel]
        try rfl
      · simp [updV, gup, gel, hq]
    · exact k.elim
  · exact k.elim
def gi_fald  : gOp := fun K Q pc lv st h kc ks => match st with
  | .int i :: .ref a :: r => match h a with
    | some (_, _, .inl (ty, n, .inr (.inr (.inl f)))) => ty = .float ∧ vp_in i n ∧ K (pc + 1) lv (.float (f i.toNatClampNeg) :: r) h kc ks
    | _ => False
  | _ => False
theorem gs_fald (hd : decode cc pc = .ok (.faload, 1)) : gSnd (own, cc, nL, ret, nm, tab, d) pc (gi_fald) := by
  rintro ⟨G, p, e, s, m, args, below, meth, c, d', MC, MS⟩ Q ⟨hz, hd', hx, hb, hml, hr, hlk, hown, hnm, htab, hW, hzs, hzk⟩ K hKK lv st h kc ks k
  intro H locs cells slots ls hl hR hS hc hs
  dsimp only at hb hml hr hlk hown hnm htab hd'
  unfold gi_fald at k
  split at k
  · rename_i i a r
    split at k
    · rename_i b0 tg ty0 n f hq
      obtain ⟨rfl, hin, k⟩ := k
      obtain ⟨cell, h1, h2, h3, h4, h5, h6⟩ := hR.arr hq
      have hlt : i.toNatClampNeg < n := Nat.not_le.mp fun q => hin (Or.inr q)
      exact W.fald (v := .float (f i.toNatClampNeg)) hx hb h1 (State.isArrayOf_alike hW.alike h2) h3 (fun q => q.elim (fun q => hin (Or.inl q)) (fun q => by omega)) (h6 _ hlt) rfl rfl hd (hKK _ _ _ _ _ _ (k) H locs cells slots ls hl hR hS hc hs)
    · exact k.elim
  · exact k.elim
def gi_fast  : gOp := fun K Q pc lv st h kc ks => match st with
  | .float x :: .int i :: .ref a :: r => match h a with
    | some (true, tg, .inl (ty, n, .inr (.inr (.inl f)))) => ty = .float ∧ vp_in i n ∧ K (pc + 1) lv r (gset h a (true, tg, .inl (ty, n, .inr (.inr (.inl (gup f i.toNatClampNeg x)))))) kc ks
    | _ => False
  | _ => False
theorem gs_fast (hd : decode cc pc = .ok (.fastore, 1)) : gSnd (own, cc, nL, ret, nm, tab, d) pc (gi_fast) := by
  rintro ⟨G, p, e, s, m, args, below, meth, c, d', MC, MS⟩ Q ⟨hz, hd', hx, hb, hml, hr, hlk, hown, hnm, htab, hW, hzs, hzk⟩ K hKK lv st h kc ks k
  intro H locs cells slots ls hl hR hS hc hs
  dsimp only at hb hml hr hlk hown hnm htab hd'
  unfold gi_fast at k
  split at k
  · rename_i x i a r
    split at k
    · rename_i tg ty0 n f hq
      obtain ⟨rfl, hin, k⟩ := k
      obtain ⟨cA, h1, h2, h3⟩ := hR.arrW hq
      refine W.fast hx hb h1 ((arrOfT_moved hW.alike h2) n _) (fun q => by cases q) (by show ¬ (i < 0 ∨ (arrV _ _ _).slots.size ≤ _); rw [arrV_size]; exact hin) rfl rfl hd fun H1 e1 e2 e3 => ?_
      refine hKK _ _ _ _ _ _ k H1 _ cells slots ls hl (hR.set (e0 := .inl (.float, n, .inr (.inr (.inl f)))) (e := .inl (.float, n, .inr (.inr (.inl (gup f i.toNatClampNeg x))))) hq e2 e3 (fun h1 hid => ⟨hR.own hq, cA, ?_, h2, h3⟩)) (hS.put e2 e3 (hR.own hq)) hc hs
      rw [e1, vp_cell_gel, vp_cell_gel, arrV_store]
      congr 2
      funext q
      by_cases hq : q = i.toNatClampNeg
      · subst hq
        simp [updV, gup, gel]
        try rfl
      · simp [updV, gup, gel, hq]
    · exact k.elim
  · exact k.elim
def gi_dald  : gOp := fun K Q pc lv st h kc ks => match st with
  | .int i :: .ref a :: r => match h a with
    | some (_, _, .inl (ty, n, .inr (.inr (.inr (.inl f))))) => ty = .double ∧ vp_in i n ∧ K (pc + 1) lv (.double (f i.toNatClampNeg) :: r) h kc ks
    | _ => False
  | _ => False
theorem gs_dald (hd : decode cc pc = .ok (.daload, 1)) : gSnd (own, cc, nL, ret, nm, tab, d) pc (gi_dald) := by
  rintro ⟨G, p, e, s, m, args, below, meth, c, d', MC, MS⟩ Q ⟨hz, hd', hx, hb, hml, hr, hlk, hown, hnm, htab, hW, hzs, hzk⟩ K hKK lv st h kc ks k
  intro H locs cells slots ls hl hR hS hc hs
  dsimp only at hb hml hr hlk hown hnm htab hd'
  unfold gi_dald at k
  split at k
  · rename_i i a r
    split at k
    · rename_i b0 tg ty0 n f hq
      obtain ⟨rfl, hin, k⟩ := k
      obtain ⟨cell, h1, h2, h3, h4, h5, h6⟩ := hR.arr hq
      have hlt : i.toNatClampNeg < n := Nat.not_le.mp fun q => hin (Or.inr q)
      exact W.dald (v := .double (f i.toNatClampNeg)) hx hb h1 (State.isArrayOf_alike hW.alike h2) h3 (fun q => q.elim (fun q => hin (Or.inl q)) (fun q => by omega)) (h6 _ hlt) rfl rfl hd (hKK _ _ _ _ _ _ (k) H locs cells slots ls hl hR hS hc hs)
    · exact k.elim
  · exact k.elim
def gi_dast  : gOp := fun K Q pc lv st h kc ks => match st with
  | .double x :: .int i :: .ref a :: r => match h a with
    | some (true, tg, .inl (ty, n, .inr (.inr (.inr (.inl f))))) => ty = .double ∧ vp_in i n ∧ K (pc + 1) lv r (gset h a (true, tg, .inl (ty, n, .inr (.inr (.inr (.inl (gup f i.toNatClampNeg x))))))) kc ks
    | _ => False
  | _ => False
theorem gs_dast (hd : decode cc pc = .ok (.dastore, 1)) : gSnd (own, cc, nL, ret, nm, tab, d) pc (gi_dast) := by
  rintro ⟨G, p, e, s, m, args, below, meth, c, d', MC, MS⟩ Q ⟨hz, hd', hx, hb, hml, hr, hlk, hown, hnm, htab, hW, hzs, hzk⟩ K hKK lv st h kc ks k
  intro H locs cells slots ls hl hR hS hc hs
  dsimp only at hb hml hr hlk hown hnm htab hd'
  unfold gi_dast at k
  split at k
  · rename_i x i a r
    split at k
    · rename_i tg ty0 n f hq
      obtain ⟨rfl, hin, k⟩ := k
      obtain ⟨cA, h1, h2, h3⟩ := hR.arrW hq
      refine W.dast hx hb h1 ((arrOfT_moved hW.alike h2) n _) (fun q => by cases q) (by show ¬ (i < 0 ∨ (arrV _ _ _).slots.size ≤ _); rw [arrV_size]; exact hin) rfl rfl hd fun H1 e1 e2 e3 => ?_
      refine hKK _ _ _ _ _ _ k H1 _ cells slots ls hl (hR.set (e0 := .inl (.double, n, .inr (.inr (.inr (.inl f))))) (e := .inl (.double, n, .inr (.inr (.inr (.inl (gup f i.toNatClampNeg x)))))) hq e2 e3 (fun h1 hid => ⟨hR.own hq, cA, ?_, h2, h3⟩)) (hS.put e2 e3 (hR.own hq)) hc hs
      rw [e1, vp_cell_gel, vp_cell_gel, arrV_store]
      congr 2
      funext q
      by_cases hq : q = i.toNatClampNeg
      · subst hq
        simp [updV, gup, gel]
        try rfl
      · simp [updV, gup, gel, hq]
    · exact k.elim
  · exact k.elim
def gi_new (tg ci N : Nat) (fs : List Value) : gOp := fun K Q pc lv st h kc ks => 1 ≤ kc ∧ N ≤ ks ∧ ∀ q : Nat, h q = none → K (pc + 3) lv (.ref q :: st) (gset h q (true, tg, .inr (.inl (ci, fs)))) (kc - 1) (ks - N)
theorem gs_new {tg ci index : Nat} {C : String} {T : u_T} {N : Nat} {ty : Nat → FieldType} {fs : List Value} (hC : gCls ci C T N ty) (hd : decode cc pc = .ok (.new index, 3)) (hw1 : Cond.classLink own index C ∈ lw_tbl) (hw2 : Cond.instantiable C N ∈ lw_tbl) (hw3 : Cond.initialized C ∈ lw_tbl) (hfs : ∀ j, j < N → defaultValue (ty j) = vp_V fs j) : gSnd (own, cc, nL, ret, nm, tab, d) pc (gi_new tg ci N fs) := by
  rintro ⟨G, p, e, s, m, args, below, meth, c, d', MC, MS⟩ Q ⟨hz, hd', hx, hb, hml, hr, hlk, hown, hnm, htab, hW, hzs, hzk⟩ K hKK lv st h kc ks k
  intro H locs cells slots ls hl hR hS hc hs
  dsimp only at hb hml hr hlk hown hnm htab hd'
  obtain ⟨k1, k2, k⟩ := k
  have hts := hC.hts (args := args) hz hW
  have hK : va_K G.2.2.2.1 vwCl [] s := va_K.moved hW.alike hz.2.2.1
  have hKn := hK.1 ci _ hC.1
  refine W.newcK hx hb hown (gword hz hW hw1 rfl) (gword hz hW hw2 rfl) (gword hz hW hw3 rfl) rfl hd (by show cells + 1 ≤ MC; omega) (by show slots + N ≤ MS; omega) hKn.2.1 rfl fun H1 kC hkC e1 z1 o1 => ?_
  refine hKK _ _ _ _ _ _ (k H.size (hR.none (Nat.le_refl _))) H1 locs (cells + 1) (slots + N) ls hl (hR.new tg (e := .inr (ci, fs)) z1 o1 (fun h1 hid => ⟨hR.1, _, hC.1, (u_born ty hts (fun _ h => h) hKn hkC e1 hC.2.2.1).to hfs⟩)) ⟨Nat.le_trans hS.1 (by omega), fun x h1 h2 => (o1 x (Nat.lt_of_lt_of_le h1 hS.1)).trans (hS.2.1 x h1 h2), hS.2.2⟩ (by omega) (by omega)
def gi_newa (tg : Nat) (ty : FieldType) (x : (Nat → Int32) ⊕ (Nat → Int64) ⊕ (Nat → UInt32) ⊕ (Nat → UInt64) ⊕ (Nat → Option Nat)) : gOp := fun K Q pc lv st h kc ks => match st with
  | .int n :: r => ¬ n < 0 ∧ n.toNatClampNeg * componentBytes ty ≤ 536870912 ∧ 1 ≤ kc ∧ n.toNatClampNeg ≤ ks ∧ ∀ q : Nat, h q = none → K (pc + 2) lv (.ref q :: r) (gset h q (true, tg, .inl (ty, n.toNatClampNeg, x))) (kc - 1) (ks - n.toNatClampNeg)
  | _ => False
theorem gs_newa {tg : Nat} {atype : ArrayType} {ty : FieldType} {x : (Nat → Int32) ⊕ (Nat → Int64) ⊕ (Nat → UInt32) ⊕ (Nat → UInt64) ⊕ (Nat → Option Nat)} (hd : decode cc pc = .ok (.newarray atype, 2)) (hty : newarray.typeOf atype = ty) (hw : Cond.arrayClass ty ∈ lw_tbl) (hx0 : ∀ j, gel x j = defaultValue ty) : gSnd (own, cc, nL, ret, nm, tab, d) pc (gi_newa tg ty x) := by
  rintro ⟨G, p, e, s, m, args, below, meth, c, d', MC, MS⟩ Q ⟨hz, hd', hx, hb, hml, hr, hlk, hown, hnm, htab, hW, hzs, hzk⟩ K hKK lv st h kc ks k
  intro H locs cells slots ls hl hR hS hc hs
  dsimp only at hb hml hr hlk hown hnm htab hd'
  unfold gi_newa at k
  split at k
  · rename_i n r
    obtain ⟨k0, k1, k2, k3, k⟩ := k
    subst hty
    refine va_newaK hx hb (gword hz hW hw rfl) rfl hd rfl k0 rfl k1 (by show cells + 1 ≤ MC; omega) (by show slots + _ ≤ MS; omega) rfl fun H1 cA e1 z1 o1 hAr hNm => ?_
    have hback : s.vm.Alike G.2.1.vm := hW.alike.symm
    refine hKK _ _ _ _ _ _ (k H.size (hR.none (Nat.le_refl _))) H1 locs (cells + 1) (slots + _) ls hl (hR.new tg (e := .inl (_, n.toNatClampNeg, x)) z1 o1 (fun h1 hid => ⟨hR.1, cA, ?_, arrOfT_moved hback hAr, ?_⟩)) ⟨Nat.le_trans hS.1 (by omega), fun x h1 h2 => (o1 x (Nat.lt_of_lt_of_le h1 hS.1)).trans (hS.2.1 x h1 h2), hS.2.2⟩ (by omega) (by omega)
    · rw [e1, vp_cell_gel]
      congr 2
      funext j
      exact (hx0 j).symm
    · refine va_RA.moved (u := s) hback ?_
      cases atype <;> exact hNm
  · exact k.elim
def gi_ckc (ci : Nat) : gOp := fun K Q pc lv st h kc ks => match st with
  | .ref a :: r => gRcv h a ci ∧ K (pc + 3) lv (.ref a :: r) h kc ks
  | _ => False
theorem gs_ckc {ci index : Nat} {C : String} {T : u_T} {N : Nat} {ty : Nat → FieldType} (hC : gCls ci C T N ty) (hd : decode cc pc = .ok (.checkcast index, 3)) (hw1 : Cond.classLink own index C ∈ lw_tbl) : gSnd (own, cc, nL, ret, nm, tab, d) pc (gi_ckc ci) := by
  rintro ⟨G, p, e, s, m, args, below, meth, c, d', MC, MS⟩ Q ⟨hz, hd', hx, hb, hml, hr, hlk, hown, hnm, htab, hW, hzs, hzk⟩ K hKK lv st h kc ks k
  intro H locs cells slots ls hl hR hS hc hs
  dsimp only at hb hml hr hlk hown hnm htab hd'
  unfold gi_ckc at k
  split at k
  · have hK : va_K G.2.2.2.1 vwCl [] s := va_K.moved hW.alike hz.2.2.1
    exact va_castS hx hb hown (gword hz hW hw1 rfl) (hK.1 ci _ hC.1).2 (hR.recv hz.2.2.1 hW.alike k.1 hC.1) hd (hKK _ _ _ _ _ _ (k.2) H locs cells slots ls hl hR hS hc hs)
  · exact k.elim
def gi_oinit  : gOp := fun K Q pc lv st h kc ks => match st with
  | .ref _ :: r => (r.map fun v => v.category).sum ≤ 8 ∧ K (pc + 3) lv r h kc ks
  | _ => False
theorem gs_oinit {index : Nat} (hd : decode cc pc = .ok (.invokespecial index, 3)) (hw1 : Cond.methodLink own index objectInit ∈ lw_tbl) (hw2 : Cond.instanceMethod objectInit ∈ lw_tbl) (hw3 : Cond.code objectInit ⟨#[0xb1]⟩ 1 none ∈ lw_tbl) (hd1 : 1 ≤ d) : gSnd (own, cc, nL, ret, nm, tab, d) pc (gi_oinit) := by
  rintro ⟨G, p, e, s, m, args, below, meth, c, d', MC, MS⟩ Q ⟨hz, hd', hx, hb, hml, hr, hlk, hown, hnm, htab, hW, hzs, hzk⟩ K hKK lv st h kc ks k
  intro H locs cells slots ls hl hR hS hc hs
  dsimp only at hb hml hr hlk hown hnm htab hd'
  unfold gi_oinit at k
  split at k
  · rename_i a r
    subst hd'
    refine W.objInit hx hb hown (gword hz hW hw1 rfl) (gword hz hW hw2 rfl) (gword hz hW hw3 rfl) rfl (by rw [hml]; exact hl.1) rfl hd hd1 (by show 2 * (F0 _ _ _ _).monitorRoom + _ + 12 ≤ 40 * d'; have := lv_room (m := m) (pc := pc) (ls := ls) (rest := .ref a :: r) k.1; omega) ?_
    exact W.eq (g2 := F0 m (pc + 3) ls r) rfl (hKK _ _ _ _ _ _ (k.2) H locs cells slots ls hl hR hS hc hs)
  · exact k.elim
end GHEAP
