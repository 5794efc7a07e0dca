/-! CALLS, THROWS, CATCHES, A METHOD'S START -/
def gok : Cond → Bool
  | .castable _ _ => true
  | .declares _ => true
  | w => goodWord w
theorem gword2 {G : gG} {s : State} {args : Array Value} (hz : gZZ G) (hW : G.2.1.WarmedH s.vm) {w : Cond} (hw : w ∈ lw_tbl) (hg : gok w = true) : w.before args s = true := by
  unfold gok at hg
  split at hg
  · exact va_Nw.use rfl (va_Nw.warmC hW (va_Nw.of rfl (hz.2.1 _ hw)))
  · exact va_Nw.use rfl (va_Nw.warmD hW (va_Nw.of rfl (hz.2.1 _ hw)))
  · exact gword hz hW hw hg
/-- a method's answer, by what it is handed and the world -/
abbrev gPT : Type := List Value → gH → gQ → Prop
/-- METHOD y KEEPS T: d frames deep, mc things of ms slots -/
def gSp (d mc ms : Nat) (y : MethodName) (ws : List Cond) (T : gPT) : Prop := ∀ G : gG, gZZ G → ∀ (av : List Value) (h : gH) (Q : gQ), T av h Q → gT G d y ws av h mc ms Q
theorem gd_le {nL : Nat} {X : gX} {Q : gQ} {pc : Nat} {a b : gL} {st : List Value} {h : gH} {kc ks kc1 ks1 : Nat} (hl : gle a b) (h1 : kc1 ≤ kc) (h2 : ks1 ≤ ks) (k : gd nL X Q pc a st h kc1 ks1) : gd nL X Q pc b st h kc ks := by
  obtain ⟨G, p, e, s, m, args, below, meth, c, d', MC, MS⟩ := X
  intro H locs cells slots ls hlv hR hS hc hs
  exact k H locs cells slots ls (hlv.le hl) hR hS (by omega) (by omega)
/-- a method without handlers, from its start -/
theorem gEntry {d mc ms maxL : Nat} {y : MethodName} {bytes : ByteArray} {ret : Option FieldType} {T : gPT} (hy : plainName y.cls = true) (hlen : ∀ av h Q, T av h Q → (lg_sl av).length ≤ maxL)
    (body : ∀ (X : gX) (Q : gQ), gC y.cls bytes maxL ret y.name [] d X → ∀ av h, T av h Q → gd maxL X Q 0 (gEnt av maxL) [] h mc ms) : gSp d mc ms y [.code y bytes maxL ret] T := by
  intro G hz av h Q hT
  refine vx_ofW (cc := bytes) (maxL := maxL) (ret := ret) hy rfl ?_
  intro p e s m args below meth c s₁ B hml ht hP
  obtain ⟨rfl, hW, hR⟩ := hP
  have hown : s.vm.findClass y.cls = some m.cls := findClass_of_methodNamed B.named
  have htab : c.exceptionTable.toList = tableOf [] := List.eq_nil_iff_forall_not_mem.mpr fun x hx => ht x hx
  have k := body (G, p, e, s, m, av.toArray, below, meth, c, d, mc, ms) Q ⟨hz, rfl, B.exec, B.bytes, hml, B.returns, B.notSynchronized, hown, (name_of_methodNamed B.named B.method).1, htab, hW, hR.1, hR.2.1⟩ av h hT
  rw [lg_entry_eq]
  exact k s.heap [] 0 0 _ (gEnt_lv av (hlen av h Q hT)) hR va_S.rf (by omega) (by omega)
/-- a method with handlers, from its start -/
theorem gEntryH {d mc ms maxL : Nat} {y : MethodName} {bytes : ByteArray} {ret : Option FieldType} {tab : List (Nat × Nat × Nat × Nat)} {T : gPT} (hy : plainName y.cls = true) (hlen : ∀ av h Q, T av h Q → (lg_sl av).length ≤ maxL)
    (body : ∀ (X : gX) (Q : gQ), gC y.cls bytes maxL ret y.name tab d X → ∀ av h, T av h Q → gd maxL X Q 0 (gEnt av maxL) [] h mc ms) : gSp d mc ms y [.codeWith y bytes maxL ret tab] T := by
  intro G hz av h Q hT
  refine vx_ofWH (cc := bytes) (maxL := maxL) (ret := ret) (hh := tab) hy rfl ?_
  intro p e s m args below meth c s₁ B hml hP
  obtain ⟨rfl, hW, hR⟩ := hP
  have hown : s.vm.findClass y.cls = some m.cls := findClass_of_methodNamed B.named
  have htab : c.exceptionTable.toList = tableOf tab := vx_table (x := y) B (atoms_spec (ws := [Cond.codeWith y bytes maxL ret tab]) B.pre _ List.mem_cons_self)
  have k := body (G, p, e, s, m, av.toArray, below, meth, c, d, mc, ms) Q ⟨hz, rfl, B.exec, B.bytes, hml, B.returns, B.notSynchronized, hown, (name_of_methodNamed B.named B.method).1, htab, hW, hR.1, hR.2.1⟩ av h hT
  rw [lg_entry_eq]
  exact k s.heap [] 0 0 _ (gEnt_lv av (hlen av h Q hT)) hR va_S.rf (by omega) (by omega)
section GCALL
variable {own nm : String} {cc : ByteArray} {nL d : Nat} {ret : Option FieldType} {tab : List (Nat × Nat × Nat × Nat)} {pc : Nat}
/-- what stands behind a call -/
def gcont (K : gK) (pc : Nat) (lv : gL) (st : List Value) (kc ks : Nat) (X : String → gH → Prop) : gQ := fun o h => match o with
  | .inl v => K (pc + 3) lv (v.toList ++ st) h kc ks
  | .inr E => X E h
theorem g_call {G : gG} {p : Program} {e : Env} {s : State} {m : MethodId} {args : Array Value} {below : List Frame} {meth : Method} {c : Code} {MC MS mc ms : Nat} {H : Heap} {locs : List Loc} {cells slots : Nat} {ls : Array Slot} {st0 rest : List Value} {Q1 : gQ} {Qf : State → Prop} {aa : Array Value}
    (hr : vx_Run p G.1 e (gRm d MC MS) s m args below meth c H locs cells slots mc ms (F0 m pc ls st0) rest (gQc G Q1 aa) (gXC G Q1) (fun q => G.2.1.heap.size ≤ q)) (hS : va_S (fun q => G.2.1.heap.size ≤ q) s.heap H locs)
    (kk : ∀ (v : Option Value) (h1 : gH) (H1 : Heap) (locs1 : List Loc), Q1 (.inl v) h1 → gR G.2.1 G.2.2.2.1 G.2.2.2.2 h1 H1 → va_S (fun q => G.2.1.heap.size ≤ q) s.heap H1 locs1 → W p G.1 e (gRm d MC MS) s m args below meth c H1 locs1 (cells + mc) (slots + ms) Qf (F0 m (pc + 3) ls (v.toList ++ rest)))
    (kx : ∀ (E : String) (ce : Cell) (q9 : Addr) (h1 : gH) (H1 : Heap) (locs1 : List Loc), Q1 (.inr E) h1 → gR G.2.1 G.2.2.2.1 G.2.2.2.2 h1 H1 → va_S (fun q => G.2.1.heap.size ≤ q) s.heap H1 locs1 → H1[q9]? = some ce → ce.vm = .none → s.vm.findClass E = some ce.cls → vx_W p G.1 e (gRm d MC MS) s m args below meth c H1 locs1 (cells + mc) (slots + ms) Qf (F0 m pc ls rest) q9) :
    W p G.1 e (gRm d MC MS) s m args below meth c H locs cells slots Qf (F0 m pc ls st0) := by
  intro T hT X
  rcases hr T hT X with ⟨v, st₀, t, T', L, h0, X', hL, e1, e2, ⟨⟨v', h1, hv, hq, hg⟩, hF⟩, st⟩ | ⟨q, st₀, t, T', L, E, ce, h0, X', hL, e1, e2, ⟨⟨h1, hq, hg⟩, hF⟩, hce, hcv, hcl, st⟩
  · cases hv
    obtain ⟨k1, k2, k3⟩ := vx_keep h0 e1 hS (fun _ _ h => h) (fun _ h => h) hL hF
    obtain ⟨t2, a1, b1⟩ := kk v h1 T'.heap (locs ++ L) hq (by rw [e1]; exact hg) k3 T' rfl X'
    exact ⟨t2, st t2 a1, b1⟩
  · obtain ⟨k1, k2, k3⟩ := vx_keep h0 e1 hS (fun _ _ h => h) (fun _ h => h) hL hF
    obtain ⟨t2, a1, b1⟩ := kx E ce q h1 T'.heap (locs ++ L) hq (by rw [e1]; exact hg) k3 (by rw [e1]; exact hce) hcv hcl T' rfl X'
    exact ⟨t2, st.trans a1, b1⟩
/-- a thrown thing leaves a method without handlers -/
theorem g_out {G : gG} {p : Program} {e : Env} {s : State} {m : MethodId} {args : Array Value} {below : List Frame} {meth : Method} {c : Code} {MC MS : Nat} {H : Heap} {locs : List Loc} {cells slots : Nat} {ls : Array Slot} {rest : List Value} {Q : gQ} {h : gH} {E : String} {ce : Cell} {q : Addr}
    (htab : c.exceptionTable.toList = tableOf []) (hlk : meth.locks = false) (hQ : Q (.inr E) h) (hR : gR G.2.1 G.2.2.2.1 G.2.2.2.2 h H) (hS : va_S (fun q => G.2.1.heap.size ≤ q) s.heap H locs) (hce : H[q]? = some ce) (hv : ce.vm = .none) (hcl : s.vm.findClass E = some ce.cls) (hc : cells ≤ MC) (hs : slots ≤ MS) :
    vx_W p G.1 e (gRm d MC MS) s m args below meth c H locs cells slots (vx_MQ below (gQc G Q) (gXC G Q) args s MC MS (fun q => G.2.1.heap.size ≤ q)) (F0 m pc ls rest) q :=
  vx_out (fun x hx => by rw [htab] at hx; cases hx) hlk hce hv hcl (fun t ht _ => ⟨⟨h, hQ, by rw [ht]; exact hR⟩, hS.F ht⟩) hS.2.2 hc hs
def gi_call (n mc ms : Nat) (T : gPT) : gOp := fun K Q pc lv st h kc ks => n ≤ st.length ∧ ((st.drop n).map fun v => v.category).sum ≤ 8 ∧ mc ≤ kc ∧ ms ≤ ks ∧ T (st.take n).reverse h (gcont K pc lv (st.drop n) (kc - mc) (ks - ms) (fun E h1 => Q (.inr E) h1))
/-- by a receiver of kind ci -/
def gi_callV (ci n mc ms : Nat) (T : gPT) : gOp := fun K Q pc lv st h kc ks => n < st.length ∧ (match st[n]? with
  | some (.ref b) => gRcv h b ci
  | _ => False) ∧ gi_call (n + 1) mc ms T K Q pc lv st h kc ks
theorem gCallB {G : gG} {s : State} {args : Array Value} (hz : gZZ G) (hW : G.2.1.WarmedH s.vm) {y : MethodName} {bytes : ByteArray} {maxL n mc ms index dc MC MS : Nat} {ret0 : Option FieldType} (hdd : dc + 1 ≤ d) (hmax : maxL ≤ 21) (hw1 : Cond.code y bytes maxL ret0 ∈ lw_tbl) (hw2 : Cond.initialized y.cls ∈ lw_tbl) (hw3 : Cond.methodLink own index y ∈ lw_tbl)
    (hy : y.cls ≠ "java/lang/invoke/MethodHandle" ∧ y.cls ≠ "java/lang/invoke/VarHandle" ∧ (parseMethodDescriptor y.desc).map (fun d => d.parameters.length) = some n) : CallB (gRm d MC MS) s args own index y bytes maxL ret0 [.code y bytes maxL ret0] (gRm dc mc ms) mc ms n := by
  refine ⟨rfl, rfl, hdd, by show 8 + (maxL + 11) + 40 * dc ≤ 40 * d; omega, fun w hw a' U hU => ?_, List.mem_cons_self, gword hz hW hw1 rfl, gword hz hW hw2 rfl, ⟨hy.1, hy.2.1⟩, fun sig h => ?_, gword hz hW hw3 rfl⟩
  · rw [List.mem_singleton] at hw
    subst hw
    exact word_at hU (good_of_word rfl) (gword (args := args) hz hW hw1 rfl)
  · have h2 := hy.2.2
    rw [h] at h2
    exact (Option.some.inj h2).symm
theorem gPc_at {G : gG} {s : State} {H : Heap} {av : List Value} {h : gH} (hW : G.2.1.WarmedH s.vm) (hR : gR G.2.1 G.2.2.2.1 G.2.2.2.2 h H) : ∀ U : State, U.heap = H → s.WarmedH U.vm → gPc G av h av.toArray U := fun U hU hw => ⟨rfl, State.WarmedH.trans hW hw, by rw [hU]; exact hR⟩
theorem gs_callS {y : MethodName} {bytes : ByteArray} {maxL n mc ms index dc : Nat} {ret0 : Option FieldType} {T : gPT} (hM : gSp dc mc ms y [.code y bytes maxL ret0] T) (ht0 : tab = []) (hd : decode cc pc = .ok (.invokestatic index, 3)) (hdd : dc + 1 ≤ d) (hmax : maxL ≤ 21) (hw1 : Cond.code y bytes maxL ret0 ∈ lw_tbl) (hw2 : Cond.initialized y.cls ∈ lw_tbl) (hw3 : Cond.methodLink own index y ∈ lw_tbl) (hw4 : Cond.static y ∈ lw_tbl)
    (hy : y.cls ≠ "java/lang/invoke/MethodHandle" ∧ y.cls ≠ "java/lang/invoke/VarHandle" ∧ (parseMethodDescriptor y.desc).map (fun d => d.parameters.length) = some n) : gSnd (own, cc, nL, ret, nm, tab, d) pc (gi_call n mc ms T) := by
  rintro ⟨G, p, e, s, m, args, below, meth, c, d', MC, MS⟩ Q ⟨hz, hd', hx, hb, hml, hr, hlk, hown, hnm, htab, hW, hzs, hzk⟩ K hKK lv st h kc ks k
  intro H locs cells slots ls hl hR hS hc hs
  dsimp only at hb hml hr hlk hown hnm htab hd'
  subst hd' ht0
  obtain ⟨k1, k2, k3, k4, k5⟩ := k
  refine g_call (vx_runS (As := (st.take n).reverse) (rest := st.drop n) (Ts := []) ⟨hx, hb, hml, hown, fun w hw => by cases hw⟩ (hM G hz _ h _ k5) ⟨gCallB hz hW hdd hmax hw1 hw2 hw3 hy, gword hz hW hw4 rfl⟩ ⟨gPc_blind _ _ _, gPc_at hW hR⟩ rfl (by simp; omega) hl.1 (by simp) (lv_room k2) hd ⟨by show cells + mc ≤ MC; omega, by show slots + ms ≤ MS; omega⟩) hS (fun v h1 H1 locs1 hq hR1 hS1 => ?_) (fun E ce q9 h1 H1 locs1 hq hR1 hS1 hce hcv hcl => ?_)
  · exact hKK _ _ _ _ _ _ hq H1 locs1 _ _ ls hl hR1 hS1 (by omega) (by omega)
  · exact g_out htab hlk hq hR1 hS1 hce hcv hcl (by omega) (by omega)
theorem gst_n {st : List Value} {n b : Nat} (h : st[n]? = some (.ref b)) : st.take (n + 1) = st.take n ++ [.ref b] := by
  rw [List.take_succ, h]
  rfl
theorem gs_callV {y : MethodName} {bytes : ByteArray} {maxL n mc ms index dc ci : Nat} {ret0 : Option FieldType} {T : gPT} {C : String} {TT : u_T} {N : Nat} {ty : Nat → FieldType} (hC : gCls ci C TT N ty) (hM : gSp dc mc ms y [.code y bytes maxL ret0] T) (ht0 : tab = []) (hd : decode cc pc = .ok (.invokevirtual index, 3)) (hdd : dc + 1 ≤ d) (hmax : maxL ≤ 21) (hw1 : Cond.code y bytes maxL ret0 ∈ lw_tbl) (hw2 : Cond.initialized y.cls ∈ lw_tbl) (hw3 : Cond.methodLink own index y ∈ lw_tbl) (hw4 : Cond.instanceMethod y ∈ lw_tbl) (hw5 : Cond.selects C y y ∈ lw_tbl)
    (hy : y.cls ≠ "java/lang/invoke/MethodHandle" ∧ y.cls ≠ "java/lang/invoke/VarHandle" ∧ (parseMethodDescriptor y.desc).map (fun d => d.parameters.length) = some n) : gSnd (own, cc, nL, ret, nm, tab, d) pc (gi_callV ci n mc ms T) := by
  rintro ⟨G, p, e, s, m, args, below, meth, c, d', MC, MS⟩ Q ⟨hz, hd', hx, hb, hml, hr, hlk, hown, hnm, htab, hW, hzs, hzk⟩ K hKK lv st h kc ks k
  intro H locs cells slots ls hl hR hS hc hs
  dsimp only at hb hml hr hlk hown hnm htab hd'
  subst hd' ht0
  obtain ⟨j1, j2, k1, k2, k3, k4, k5⟩ := k
  split at j2
  · rename_i b hb9
    rw [gst_n hb9, List.reverse_append] at k5
    refine g_call (vx_runV (C := C) (b := b) (As := (st.take n).reverse) (rest := st.drop (n + 1)) (Ts := []) ⟨hx, hb, hml, hown, fun w hw => by cases hw⟩ (hM G hz _ h _ k5) ⟨gCallB hz hW hdd hmax hw1 hw2 hw3 hy, gword hz hW hw4 rfl, gword hz hW hw5 rfl⟩ ⟨gPc_blind _ _ _, hR.recv hz.2.2.1 hW.alike j2 hC.1, gPc_at hW hR⟩ rfl (by simp; omega) hl.1 ?_ (lv_room k2) hd ⟨by show cells + mc ≤ MC; omega, by show slots + ms ≤ MS; omega⟩) hS (fun v h1 H1 locs1 hq hR1 hS1 => ?_) (fun E ce q9 h1 H1 locs1 hq hR1 hS1 hce hcv hcl => ?_)
    · show st = _
      rw [List.reverse_reverse]
      have h9 := List.take_append_drop (n + 1) st
      rw [gst_n hb9] at h9
      exact h9.symm.trans (by simp)
    · exact hKK _ _ _ _ _ _ hq H1 locs1 _ _ ls hl hR1 hS1 (by omega) (by omega)
    · exact g_out htab hlk hq hR1 hS1 hce hcv hcl (by omega) (by omega)
  · exact j2.elim
/-- a constructor -/
def gi_callI (n mc ms : Nat) (T : gPT) : gOp := fun K Q pc lv st h kc ks => n < st.length ∧ (match st[n]? with
  | some (.ref _) => True
  | _ => False) ∧ gi_call (n + 1) mc ms T K Q pc lv st h kc ks
theorem gs_callI {y : MethodName} {bytes : ByteArray} {maxL n mc ms index dc : Nat} {T : gPT} (hM : gSp dc mc ms y [.code y bytes maxL none] T) (hyi : y.name = "<init>") (ht0 : tab = []) (hd : decode cc pc = .ok (.invokespecial index, 3)) (hdd : dc + 1 ≤ d) (hmax : maxL ≤ 21) (hw1 : Cond.code y bytes maxL none ∈ lw_tbl) (hw2 : Cond.initialized y.cls ∈ lw_tbl) (hw3 : Cond.methodLink own index y ∈ lw_tbl) (hw4 : Cond.instanceMethod y ∈ lw_tbl)
    (hy : y.cls ≠ "java/lang/invoke/MethodHandle" ∧ y.cls ≠ "java/lang/invoke/VarHandle" ∧ (parseMethodDescriptor y.desc).map (fun d => d.parameters.length) = some n) : gSnd (own, cc, nL, ret, nm, tab, d) pc (gi_callI n mc ms T) := by
  rintro ⟨G, p, e, s, m, args, below, meth, c, d', MC, MS⟩ Q ⟨hz, hd', hx, hb, hml, hr, hlk, hown, hnm, htab, hW, hzs, hzk⟩ K hKK lv st h kc ks k
  intro H locs cells slots ls hl hR hS hc hs
  dsimp only at hb hml hr hlk hown hnm htab hd'
  subst hd' ht0
  obtain ⟨j1, j2, k1, k2, k3, k4, k5⟩ := k
  split at j2
  · rename_i b hb9
    rw [gst_n hb9, List.reverse_append] at k5
    refine g_call (vx_runI (b := b) (As := (st.take n).reverse) (rest := st.drop (n + 1)) (Ts := []) ⟨hx, hb, hml, hown, fun w hw => by cases hw⟩ (hM G hz _ h _ k5) ⟨gCallB hz hW hdd hmax hw1 hw2 hw3 hy, hyi, gword hz hW hw4 rfl⟩ ⟨gPc_blind _ _ _, gPc_at hW hR⟩ rfl (by simp; omega) hl.1 ?_ (lv_room k2) hd ⟨by show cells + mc ≤ MC; omega, by show slots + ms ≤ MS; omega⟩) hS (fun v h1 H1 locs1 hq hR1 hS1 => ?_) (fun E ce q9 h1 H1 locs1 hq hR1 hS1 hce hcv hcl => ?_)
    · show st = _
      rw [List.reverse_reverse]
      have h9 := List.take_append_drop (n + 1) st
      rw [gst_n hb9] at h9
      exact h9.symm.trans (by simp)
    · exact hKK _ _ _ _ _ _ hq H1 locs1 _ _ ls hl hR1 hS1 (by omega) (by omega)
    · exact g_out htab hlk hq hR1 hS1 hce hcv hcl (by omega) (by omega)
  · exact j2.elim
/-- 'throw new E("text")' -/
def gi_thr (E : String) : gOp := fun K Q pc lv st h kc ks => 1 ≤ kc ∧ 6 ≤ ks ∧ (st.map fun v => v.category).sum ≤ 8 ∧ Q (.inr E) h
theorem gs_thr {E text : String} {ik is ic : Nat} {names : List String} (ht0 : tab = []) (d0 : decode cc pc = .ok (.new ik, 3)) (d3 : decode cc (pc + 3) = .ok (.dup, 1)) (d4 : decode cc (pc + 4) = .ok (.ldc is, 2)) (d6 : decode cc (pc + 6) = .ok (.invokespecial ic, 3)) (d9 : decode cc (pc + 9) = .ok (.athrow, 1))
    (hcls : Bundle.fit E = true) (hnames : ∀ n ∈ names, Bundle.fit n = true) (hn2 : names.length ≤ 2) (hd6 : 6 ≤ d) (hw1 : Cond.classLink own ik E ∈ lw_tbl) (hw2 : Cond.initialized E ∈ lw_tbl) (hstr : (own, is, text) ∈ gStr) (hat : ∀ w ∈ vx_atS own ic E names, w ∈ lw_tbl ∧ gok w = true) (hgood : ∀ w ∈ Cond.classLink own ik E :: Cond.initialized E :: vx_atS own ic E names, vx_ot w = true) : gSnd (own, cc, nL, ret, nm, tab, d) pc (gi_thr E) := by
  rintro ⟨G, p, e, s, m, args, below, meth, c, d', MC, MS⟩ Q ⟨hz, hd', hx, hb, hml, hr, hlk, hown, hnm, htab, hW, hzs, hzk⟩ K hKK lv st h kc ks k
  intro H locs cells slots ls hl hR hS hc hs
  dsimp only at hb hml hr hlk hown hnm htab hd'
  subst hd' ht0
  obtain ⟨k1, k2, k3, k⟩ := k
  obtain ⟨sa, hsa⟩ := hz.2.2.2.2.2.2.1 _ hstr
  have hA : ∀ a : Nat, a < G.2.1.heap.size → ¬ (fun q => G.2.1.heap.size ≤ q) a → s.heap[a]? = G.2.1.heap[a]? := fun a h1 _ => hzk a h1
  refine vx_throwS hx hb hz.1 (text := text) (names := names) hown hcls hnames (gword hz hW hw1 rfl) (gword hz hW hw2 rfl) (vk_R.warm hW hsa) (fun w hw => gword2 hz hW (hat w hw).1 (hat w hw).2) hgood ((vx_Zq.moved hW.alike hz.2.2.2.2.1).kept hA) ((vx_Zq.moved hW.alike hz.2.2.2.2.2.1).kept hA) hS (hl.1.trans hml.symm) d0 d3 d4 d6 d9 (fun x hx => by rw [htab] at hx; cases hx) (by show names.length + 3 < d'; omega) ?_ (by show cells + 1 ≤ MC; omega) (by show slots + 6 ≤ MS; omega) hlk (fun t ht h1 h2 => ⟨⟨h, k, hR.far h1 h2⟩, Nat.le_trans hS.1 h1, fun q q1 q2 => (h2 q (Nat.lt_of_lt_of_le q1 hS.1)).trans (hS.2.1 q q1 q2)⟩) hS.2.2 (by omega) (by omega)
  show _ ≤ 40 * d'
  omega
end GCALL
/-! a method as a table of its instructions, and its run up to places where it stops -/
def grun (P : Nat → gOp) (S : Nat → Option (List Bool)) (K : gK) (Q : gQ) : Nat → gK
  | 0 => K
  | n + 1 => fun pc lv st h kc ks => P pc (fun pc1 lv1 st1 h1 kc1 ks1 => match S pc1 with
    | some bs => K pc1 (gmask bs lv1) st1 h1 kc1 ks1
    | none => grun P S K Q n pc1 lv1 st1 h1 kc1 ks1) Q pc lv st h kc ks
theorem grun_ok {M : gM} {P : Nat → gOp} (hP : ∀ pc, gSnd M pc (P pc)) {X : gX} {Q : gQ} (hC : gC M.1 M.2.1 M.2.2.1 M.2.2.2.1 M.2.2.2.2.1 M.2.2.2.2.2.1 M.2.2.2.2.2.2 X) (S : Nat → Option (List Bool)) : ∀ (n pc : Nat) (lv : gL) (st : List Value) (h : gH) (kc ks : Nat), grun P S (gd M.2.2.1 X Q) Q n pc lv st h kc ks → gd M.2.2.1 X Q pc lv st h kc ks := by
  intro n
  induction n with
  | zero => exact fun _ _ _ _ _ _ k => k
  | succ n ih =>
    intro pc lv st h kc ks k
    refine hP pc X Q hC _ (fun pc1 lv1 st1 h1 kc1 ks1 k1 => ?_) lv st h kc ks k
    split at k1
    · exact gd_le (gmask_le _ _) (Nat.le_refl _) (Nat.le_refl _) k1
    · exact ih _ _ _ _ _ _ k1
/-- no instruction -/
def gi_no : gOp := fun _ _ _ _ _ _ _ _ => False
theorem gs_no {M : gM} {pc : Nat} : gSnd M pc gi_no := fun _ _ _ _ _ _ _ _ _ _ k => k.elim
