/-! THE CLAIM OUT OF ONE WALK OF THE LAW'S BODY. Your part is whole_start (and what it stands on); all else here is the same for every law, but numbers. -/
def R_law : String := "InglenookLaw"
def lw_P (b : Addr) (xs : List Int32) (args : Array Value) (s : State) : Prop := args = #[.ref b] ∧ s.IntsAt b xs ∧ xs.length ≤ 2048 ∧ (Jvm.Cond.and given_1 narrow_1).before args s = true
/-- what a walk over the start with the record d0 says of its end, said of the start itself -/
theorem lw_closed {s t : State} {o : Outcome} {d0 : Drawn} {L : List Loc} {k n : Nat} (hd0 : s.drawn.sameBut d0 lw_cs) (hv : ∃ v, o = .returned v) (hW : (s.setDrawn d0).WarmedH t.vm) (hs : (s.setDrawn d0).sameButNew ({ t with vm := s.vm } : State) L k n) : State.butDraws s t lw_cs (fun t1 => Framed s o t1 L k n) := by
  have h2 : t.drawn = d0 := congrArg State.drawn hs.1
  refine ⟨⟨hv, hW, State.sameButNew.setDrawn hs s.drawn⟩, ?_, by decide⟩
  rw [h2]
  exact hd0
def lw_Q (_ : Array Value) (s : State) (o : Outcome) (t : State) : Prop := o = .returned (some (.int 1)) ∧ State.butDraws s t lw_cs (fun t1 => Framed s o t1 [] 603072 7219306)
def lw_Z (below : List Frame) (a : Array Value) (s : State) : State → Prop := fun t => ∃ o, t.status = .running ∧ Ended t below o ∧ lw_Q a s o t
/-- the law's own end, with 1 on the stack, nothing written that was there before, its room as the claim has it; d0: the record of draws at this point (at the entry s.drawn: begin with 'refine W.base ?_' and 'have hd0 := Drawn.sameBut.refl s.drawn lw_cs') -/
theorem lw_ret {p : Program} {l : Launch} {e : Env} {s : State} {m : MethodId} {below : List Frame} {meth : Method} {c : Code} {b : Nat} {d0 : Drawn} (hd0 : s.drawn.sameBut d0 lw_cs) (hx : p.tables.exec = Jvm.exec) (hb : c.code = code) (hr : meth.sig.returnType = ret) (hlocks : meth.locks = false) {pc : Nat} {H : Heap} {ls : Array Slot} (hdg : decode code pc = .ok (.ireturn, 1)) : W p l e room_1 (s.setDrawn d0) m #[Value.ref b] below meth c H [] 603072 7219306 (lw_Z below #[Value.ref b] s) (F0 m pc ls [.int 1]) := by
  intro T hT X
  obtain ⟨fs, hret, hrun, hended, hW, hframe⟩ := X.leave (v := some (.int 1)) (hlocks := hlocks) (fun h => by rw [hr] at h; cases h)
  have hmeth' : T.vm.method? m = some meth := X.method'
  refine ⟨T.setFrames fs, ?_, .returned (some (.int 1)), hrun, hended, rfl, lw_closed hd0 ⟨_, rfl⟩ hW hframe⟩
  jvm_step X.here [X.here.top, hx, hb, hdg, hmeth', hr, ret, narrow_b1]
  (try refine ⟨rfl, ?_⟩); (try refine ⟨rfl, ?_⟩)
  first | (intro acts; rw [hret _ acts rfl rfl rfl]) | rw [hret _ _ rfl rfl rfl]
  exact Steps.refl _
/-- what holds at the law's entry: the machine, the code, the tables' words (any of lw_tbl by 'hts w (by decide +kernel)'), the script of L ints xs at the cell b, what the Statement gives of the start (any of its parts by flat_of_before) -/
def lw_At (p : Program) (s : State) (m : MethodId) (meth : Method) (c : Code) (b L : Nat) (xs : Nat → Int32) : Prop :=
  p.tables.exec = Jvm.exec ∧ c.code = code ∧ meth.sig.returnType = ret ∧ c.maxLocals = 9 ∧ s.vm.findClass R_law = some m.cls ∧ (∀ w ∈ lw_tbl, w.before #[Value.ref b] s = true) ∧ va_X b L xs s s.heap ∧ b < s.heap.size ∧ meth.locks = false ∧ (Jvm.Cond.and given_1 narrow_1).before #[Value.ref b] s = true ∧ meth.name = "law" ∧ c.exceptionTable.toList = []
theorem ws_base {s : State} {D : va_G} {ed b L e0 b0 : Nat} {xs : Nat → Int32} (hK : va_K D vwCl [] s) (hX : va_X b L xs s s.heap) (hbl : b < s.heap.size) (hE : gEd s ed) (hR : vk_R RX6 278 "rojlsexmp" e0 s) (hO : va_O RJ0 e0 (fun q => s.heap.size ≤ q) s s.heap) (hF : va_OF "java/lang/String" "value" "[B" (.ref b0) e0 (fun q => s.heap.size ≤ q) s s.heap) (hC : va_OF "java/lang/String" "coder" "B" (.int (nI 0)) e0 (fun q => s.heap.size ≤ q) s s.heap) (hB : va_T .byte b0 9 (fun j => .int (nI (kcode j))) (fun q => s.heap.size ≤ q) s s.heap) : gR s D ed (ws_h b L xs ed e0 b0) s.heap ∧ lawS (ws_h b L xs ed e0 b0) b L xs := by
  have hS : va_T .int b L (gel (.inl xs)) (fun q => s.heap.size ≤ q) s s.heap := by
    obtain ⟨scr, h1, h2, h3, h4, h5⟩ := hX
    refine ⟨scr, h1, h2, h3, by omega, by rw [h4], fun j hj => h5 j hj, Nat.not_le.mpr hbl⟩
  have n1 : ed ≠ b := ws_ne hE.2 hS (by decide)
  have n2 : b0 ≠ b := ws_ne hB hS (by decide)
  have n3 : b0 ≠ ed := ws_ne hB hE.2 (by decide)
  have hcl : ClassAt s RJ0 (D.1 0) := (hK.1 0 (RJ0, TJ0, 2) rfl).2
  have n4 : e0 ≠ b := Ne.symm (ws_nO hS hO hcl)
  have n5 : e0 ≠ ed := Ne.symm (ws_nO hE.2 hO hcl)
  have n6 : b0 ≠ e0 := ws_nO hB hO hcl
  have w1 : ws_h b L xs ed e0 b0 b = some (false, 79, .inl (.int, L, .inl xs)) := if_pos rfl
  have w2 : ws_h b L xs ed e0 b0 ed = some (false, 77, .inl (tObj, 0, .inl (fun _ => 0))) := by unfold ws_h; rw [if_neg n1, if_pos rfl]
  have w3 : ws_h b L xs ed e0 b0 e0 = some (false, 78, .inr (.inl (0, [.ref b0, .int (nI 0)]))) := by unfold ws_h; rw [if_neg n4, if_neg n5, if_pos rfl]
  have w4 : ws_h b L xs ed e0 b0 b0 = some (false, 80, .inl (.byte, 9, .inl (fun j => nI (kcode j)))) := by unfold ws_h; rw [if_neg n2, if_neg n3, if_neg n6, if_pos rfl]
  refine ⟨⟨Nat.le_refl _, fun q _ => rfl, fun _ => 0, fun a e ha => ?_, fun a c t1 t2 us vs ha => ?_⟩, ⟨ed, _, w2⟩, ⟨e0, b0, _, w3, w4, fun j _ => rfl⟩, w1⟩
  · unfold ws_h at ha
    split at ha
    · rename_i z
      subst z
      cases ha
      exact ⟨fun z => absurd z (by decide), hS⟩
    · split at ha
      · rename_i z
        subst z
        cases ha
        refine ⟨fun _ => rfl, ?_⟩
        obtain ⟨cell, h1, h2, h3, h4, h5, -, h7⟩ := hE.2
        exact ⟨cell, h1, h2, h3, h4, h5, fun j hj => absurd hj (Nat.not_lt_zero j), h7⟩
      · split at ha
        · rename_i z
          subst z
          cases ha
          refine ⟨fun _ => hR, (RJ0, TJ0, 2), rfl, hO, fun k v hk hv => ?_⟩
          match k, hk, hv with
          | 0, _, hv => cases hv; exact hF
          | 1, _, hv => cases hv; exact hC
          | k + 2, hk, _ => exact absurd hk (by show ¬ k + 2 < 2; omega)
        · split at ha
          · rename_i z
            subst z
            cases ha
            exact ⟨fun z => absurd z (by decide), hB⟩
          · cases ha
  · exfalso
    unfold ws_h at ha
    split at ha
    · cases ha
    · split at ha
      · cases ha
      · split at ha
        · cases ha
        · split at ha
          · cases ha
          · cases ha
/-- YOUR PART: from the entry, for every script of at most 2048 ints, the law comes to its end with true ('hflags': the launch's flags, for a law that throws: no stack traces) -/
theorem whole_start {p : Program} {e : Env} {s : State} {m : MethodId} {below : List Frame} {meth : Method} {c : Code} (l : Launch) (hflags : l.flags = flags0) {b L : Nat} {xs : Nat → Int32} (hL : L ≤ 2048) (C0 : lw_At p s m meth c b L xs) : W p l e room_1 s m #[Value.ref b] below meth c s.heap [] 0 0 (lw_Z below #[Value.ref b] s) (entryFrame m ([Value.ref b] : List Value).toArray 9) := by
  obtain ⟨hx, hb, hr, hml, hown, hts, hX, hbl, hlocks, hgv, hnm, htb⟩ := C0
  obtain ⟨D, hK⟩ := ws_K hts
  obtain ⟨ed, hE⟩ := ws_ed hts hgv
  obtain ⟨e0, b0, hR, hO, hF, hC, hB⟩ := ws_T hts hgv
  have hZ : gZ l s b D ed := ws_Z hts hgv hflags hK hE
  obtain ⟨hG, hS⟩ := ws_base (L := L) (xs := xs) hK hX hbl hE hR hO hF hC hB
  have hst : ∀ q e, ws_h b L xs ed e0 b0 q = some e → e.2.1 ≠ 1 ∧ e.2.1 ≠ 2 ∧ e.2.1 ≠ 3 := fun q e h => by
    unfold ws_h at h
    split at h
    · cases h; refine ⟨?_, ?_, ?_⟩ <;> simp
    · split at h
      · cases h; refine ⟨?_, ?_, ?_⟩ <;> simp
      · split at h
        · cases h; refine ⟨?_, ?_, ?_⟩ <;> simp
        · split at h
          · cases h; refine ⟨?_, ?_, ?_⟩ <;> simp
          · cases h
  have k := lw_body (X := ((l, s, b, D, ed), p, e, s, m, #[Value.ref b], below, meth, c, 100, 603072, 7219306)) (Q := fun o _ => o = .inl (some (.int (nI 1)))) ⟨hZ, rfl, hx, hb, hml, hr, hlocks, hown, hnm, htb, State.WarmedH.refl s, Nat.le_refl _, fun _ _ => rfl⟩ hL (fun _ => rfl) hS hst
  rw [lg_entry_eq]
  have K := k s.heap [] 0 0 _ (gEnt_lv [Value.ref b] (n := 9) (Nat.le_of_ble_eq_true rfl)) hG va_S.rf (by omega) (by omega)
  intro T hT X
  obtain ⟨t, a1, o, b1, b2, b3⟩ := K T hT ⟨X.admits, X.cas, X.clock, X.frames, ws_room X.room, X.hears, X.method, X.code, X.here, X.tail, X.warmed, X.limits, X.bytes, X.same⟩
  rcases b3 with ⟨⟨⟨v, h1, ho, hq, -⟩, -⟩, Ls, ⟨hv, hW, hs⟩, hfree⟩ | ⟨q, -, E, ce, Ls, ⟨⟨h1, hq, -⟩, -⟩, -⟩
  · cases hq
    subst ho
    exact ⟨t, a1, _, b1, b2, rfl, lw_closed (d0 := s.drawn) (Drawn.sameBut.refl s.drawn lw_cs) ⟨_, rfl⟩ hW (hs.weaken (fun y hy hlt => absurd hlt (Nat.not_lt.mpr (hfree y hy))) (Nat.le_refl _) (Nat.le_refl _))⟩
  · cases hq
set_option maxHeartbeats 4000000 in
theorem lw_walk (l : Launch) (hflags : l.flags = flags0) (b : Addr) (xs : List Int32) : MetFree l x (headSpec (Jvm.Cond.code x code maxLocals ret :: tables_1) room_1) (lw_P b xs) (fun _ _ _ _ _ => True) lw_Q := by
  refine MetFree.of_bodyS (code := code) (maxLocals := maxLocals) (ret := ret) (by decide) ?_ ?_
  · intro args s m h hn
    obtain ⟨meth, c, h1, h2, h3, h4, h5, h6, -, -⟩ := Cond.code_spec hn (atoms_spec (ws := Jvm.Cond.code x code maxLocals ret :: tables_1) h _ List.mem_cons_self)
    exact ⟨meth, c, h1, h2, h3, h4, h5, h6⟩
  · intro p e s m args below meth c s₁ B hml0 hP _
    obtain ⟨rfl, hx, hbd, hgv⟩ := hP
    obtain ⟨scr, harrAt, hlist, hof, hsmall⟩ := hx
    obtain ⟨hcb, hkn, -, -⟩ := State.arrayAt?_spec harrAt
    have hown : s.vm.findClass R_law = some m.cls := findClass_of_methodNamed B.named
    have hts0 : ∀ c ∈ (Jvm.Cond.code x code maxLocals ret :: tables_1), c.before #[Value.ref b] s = true := atoms_spec (ws := Jvm.Cond.code x code maxLocals ret :: tables_1) B.pre
    have hts : ∀ w ∈ lw_tbl, w.before #[Value.ref b] s = true := k2_hts_sels lw_privs (fun w hw => hts0 w (List.mem_cons_of_mem _ hw)) lw_privs_ok
    have hml : c.maxLocals = 9 := B.maxLocals_eq (hts0 _ List.mem_cons_self)
    have X₀ : Stand p l e room_1 s m #[Value.ref b] below meth c s₁ [] 0 0 := Stand.of_body B
    have hh0 : s₁.heap = s.heap := by rw [B.state]; rfl
    have htb : c.exceptionTable.toList = [] := by
      obtain ⟨meth9, c9, h1, h2, -, -, -, -, h7, -⟩ := Cond.code_spec B.named (hts0 _ List.mem_cons_self)
      cases Option.some.inj (h1.symm.trans B.method)
      cases Option.some.inj (h2.symm.trans X₀.code)
      rw [Array.isEmpty_iff.mp h7]
    have hsz : scr.slots.size = xs.length := by rw [← Array.length_toList, hlist, List.length_map]
    have hval : ∀ j : Nat, j < xs.length → scr.slots[j]? = some (.int (xs.getD j 0)) := fun j hj => by
      rw [← Array.getElem?_toList, hlist]
      simp [hj]
    have hbl : b < s.heap.size := (Array.getElem?_eq_some_iff.mp hcb).1
    have hX : va_X b xs.length (fun j => xs.getD j 0) s s.heap := ⟨scr, hcb, hof, hkn, hsz, hval⟩
    have K : W p l e room_1 s m #[Value.ref b] below meth c s₁.heap [] 0 0 (lw_Z below #[Value.ref b] s) (entryFrame m ([Value.ref b] : List Value).toArray 9) := by
      rw [hh0]
      exact whole_start l hflags hbd ⟨B.exec, B.bytes, B.returns, hml, hown, hts, hX, hbl, B.notSynchronized, hgv, (name_of_methodNamed B.named B.method).1, htb⟩
    obtain ⟨t, a1, o, b1, b2, b3⟩ := K s₁ rfl X₀
    exact ⟨t, o, a1, b1, b2, b3⟩
theorem lw_pre_spec {args : Array Value} {s : State} (h : (Jvm.Cond.and given_1 narrow_1).before args s = true) (hr : rest_1_c.before args s = true) : ∃ (b : Addr) (xs : List Int32), lw_P b xs args s := by
  have hs := flat_of_before _ h
  have hq := flat_of_before _ hr
  have hc : (Cond.count 1).before args s = true := hs _ (by decide +kernel)
  have harr : (Cond.arrayOf (.arg 0) .int).before args s = true := hs _ (by decide +kernel)
  have hle : (Cond.le (.length (.arg 0)) (.int 2048)).before args s = true := hs _ (by decide +kernel)
  have hlen : (Cond.isInt (.length (.arg 0))).before args s = true := hq _ (by decide +kernel)
  have hall : (Cond.all (.arg 0) (.isInt (.elem (.arg 0) (.index 0)))).before args s = true := hq _ (by decide +kernel)
  obtain ⟨b, xs, hb, hx⟩ := State.ints_of_pre rfl harr hlen hall
  have hsm : xs.length < 2 ^ 31 := hx.choose_spec.2.2.2
  have hev : (Term.length (.arg 0)).eval args s none [] s = some (.int xs.length.toInt32) := hx.length_eval hb
  have hv := Cond.le_ints hev (show (Term.int 2048).eval args s none [] s = some (.int 2048) from rfl)
  have hd : xs.length.toInt32 ≤ 2048 := by
    simpa [Cond.before, Cond.holds, hv] using hle
  have hN : xs.length ≤ 2048 := (Int32.ofNat_le_ofNat hsm (by decide)).mp (show Int32.ofNat xs.length ≤ Int32.ofNat 2048 from hd)
  exact ⟨b, xs, Cond.one_arg hc (show args[0]? = some (.ref b) from hb), hx, hN, h⟩
theorem lw_comes (l : Launch) (hflags : l.flags = flags0) : Comes l x (Jvm.Cond.code x code maxLocals ret :: tables_1) room_1 (fun tb e args s => Calls_1 tb e args s ∧ rest_1 tb e args s ∧ Pre_1 tb e args s)
    (fun _ _ args s o t => lw_Q args s o t) := by
  intro p e ha hc hk s m args below hf hfit hheap happ hpre
  obtain ⟨b, xs, hP⟩ := lw_pre_spec hpre.2.2 hpre.2.1
  obtain ⟨k, o, h1, h2, h3, hQ⟩ := lw_walk l hflags b xs p e ha hc hk s m args below hf ((Spec.applies_iff_loose hf).mp happ).1 hP trivial
  exact ⟨k, o, h1, h2, h3, hQ⟩
theorem lw_frame {s t : State} {o : Outcome} {args : Array Value} (h : State.butDraws s t lw_cs (fun t1 => Framed s o t1 [] 603072 7219306)) :
    State.butDraws s t [Jvm.Choice.named "NaN.bits"] (fun t1 => Framed s o t1 (fieldLocs frame_1_writes args s ++ arrayLocs frame_1_arrays args s ++ staticLocs frame_1_statics s) 603072 7219306) := h
theorem lw_limb (L : Cond) (hL : ∀ (args : Array Value) (s t : State), L.after args s (.returned (some (.int 1))) t = true) :
    ArmFor flags0 classFile x code maxLocals ret World_1 tables_1 room_1 Calls_1 rest_1 Pre_1
      (fun tb e a s o t => postC L tb e a s o t ∧ State.butDraws s t [Jvm.Choice.named "NaN.bits"] (fun t1 => Framed s o t1 (fieldLocs frame_1_writes a s ++ arrayLocs frame_1_arrays a s ++ staticLocs frame_1_statics s) 603072 7219306)) := by
  intro l hflags _ _ p e ha hc hk s m args below hf hfit hheap happ hpre
  obtain ⟨k, o, h1, h2, h3, rfl, hF⟩ := lw_comes l hflags p e ha hc hk s m args below hf hfit hheap happ hpre
  exact ⟨k, _, h1, h2, h3, hL args s _, lw_frame hF⟩
theorem i_vc : Claimed_1_1 ∧ Claimed_1_2 := ⟨lw_limb limb_1_1 (fun args s t => by simp [limb_1_1, Cond.after, Cond.holds, Cond.value]), lw_limb limb_1_2 (fun args s t => Cond.after_iff.mpr (by
  first | (rw [show limb_1_2 = Cond.eq .result (.int 1) from rfl, Cond.eq_ints (x := 1) (y := 1) rfl rfl]; simp; done) | (simp [limb_1_2, Cond.value, Term.eval]; done)))⟩
