/-! calls whose throws are caught here; calls of methods with handlers -/
def gHnd (own : String) (tab : List (Nat × Nat × Nat × Nat)) (pc : Nat) (E : String) (hp : Nat) : Prop := ∃ (pre : List (Nat × Nat × Nat × Nat)) (x : Nat × Nat × Nat × Nat) (suf : List (Nat × Nat × Nat × Nat)), tab = pre ++ x :: suf ∧ x.1 ≤ pc ∧ pc < x.2.1 ∧ x.2.2.1 = hp ∧ x.2.2.2 ≠ 0 ∧ Cond.classLink own x.2.2.2 E ∈ lw_tbl ∧ Cond.castable E E ∈ lw_tbl ∧ ∀ z ∈ pre, z.2.2.2 ≠ 0 ∧ ∃ nm, Cond.classLink own z.2.2.2 nm ∈ lw_tbl ∧ (E, nm) ∈ gNcs
def gi_callH (ci n mc ms : Nat) (T : gPT) (hs : List (String × Nat)) : gOp := fun K Q pc lv st h kc ks => n < st.length ∧ (match st[n]? with
  | some (.ref b) => gRcv h b ci
  | _ => False) ∧ n + 1 ≤ st.length ∧ ((st.drop (n + 1)).map fun v => v.category).sum ≤ 8 ∧ mc ≤ kc ∧ ms ≤ ks ∧ T (st.take (n + 1)).reverse h (fun o h1 => match o with
  | .inl v => K (pc + 3) lv (v.toList ++ st.drop (n + 1)) h1 (kc - mc) (ks - ms)
  | .inr E => ∃ hp : Nat, (E, hp) ∈ hs ∧ ∀ q9 : Nat, K hp lv [.ref q9] h1 (kc - mc) (ks - ms))
section GHND
variable {own nm : String} {cc : ByteArray} {nL d : Nat} {ret : Option FieldType} {tab : List (Nat × Nat × Nat × Nat)} {pc : Nat}
theorem gs_callH {y : MethodName} {bytes : ByteArray} {maxL n mc ms index dc ci : Nat} {ret0 : Option FieldType} {T : gPT} {C : String} {TT : u_T} {N : Nat} {ty : Nat → FieldType} {hs : List (String × Nat)} (hC : gCls ci C TT N ty) (hM : gSp dc mc ms y [.code y bytes maxL ret0] T) (hH : ∀ q ∈ hs, gHnd own tab pc q.1 q.2) (hd : decode cc pc = .ok (.invokevirtual index, 3)) (hdd : dc + 1 ≤ d) (hmax : maxL ≤ 21) (hw1 : Cond.code y bytes maxL ret0 ∈ lw_tbl) (hw2 : Cond.initialized y.cls ∈ lw_tbl) (hw3 : Cond.methodLink own index y ∈ lw_tbl) (hw4 : Cond.instanceMethod y ∈ lw_tbl) (hw5 : Cond.selects C y y ∈ lw_tbl)
    (hy : y.cls ≠ "java/lang/invoke/MethodHandle" ∧ y.cls ≠ "java/lang/invoke/VarHandle" ∧ (parseMethodDescriptor y.desc).map (fun d => d.parameters.length) = some n) : gSnd (own, cc, nL, ret, nm, tab, d) pc (gi_callH ci n mc ms T hs) := by
  rintro ⟨G, p, e, s, m, args, below, meth, c, d', MC, MS⟩ Q ⟨hz, hd', hx, hb, hml, hr, hlk, hown, hnm, htab, hW, hzs, hzk⟩ K hKK lv st h kc ks k
  intro H locs cells slots ls hl hR hS hc hs9
  dsimp only at hb hml hr hlk hown hnm htab hd'
  subst hd'
  obtain ⟨j1, j2, k1, k2, k3, k4, k5⟩ := k
  split at j2
  · rename_i b hb9
    rw [gst_n hb9, List.reverse_append] at k5
    refine g_call (vx_runV (C := C) (b := b) (As := (st.take n).reverse) (rest := st.drop (n + 1)) (Ts := []) ⟨hx, hb, hml, hown, fun w hw => by cases hw⟩ (hM G hz _ h _ k5) ⟨gCallB hz hW hdd hmax hw1 hw2 hw3 hy, gword hz hW hw4 rfl, gword hz hW hw5 rfl⟩ ⟨gPc_blind _ _ _, hR.recv hz.2.2.1 hW.alike j2 hC.1, gPc_at hW hR⟩ rfl (by simp; omega) hl.1 ?_ (lv_room k2) hd ⟨by show cells + mc ≤ MC; omega, by show slots + ms ≤ MS; omega⟩) hS (fun v h1 H1 locs1 hq hR1 hS1 => ?_) (fun E ce q9 h1 H1 locs1 hq hR1 hS1 hce hcv hcl => ?_)
    · show st = _
      rw [List.reverse_reverse]
      have h9 := List.take_append_drop (n + 1) st
      rw [gst_n hb9] at h9
      exact h9.symm.trans (by simp)
    · exact hKK _ _ _ _ _ _ hq H1 locs1 _ _ ls hl hR1 hS1 (by omega) (by omega)
    · obtain ⟨hp, hm, hk⟩ := hq
      obtain ⟨pre, x, suf, t1, t2, t3, t4, t5, t6, t7, t8⟩ := hH _ hm
      have hsp : c.exceptionTable.toList = tableOf pre ++ (⟨x.1, x.2.1, x.2.2.1, x.2.2.2⟩ : ExceptionTableEntry) :: tableOf suf := by
        rw [htab, t1]
        simp [tableOf]
      refine vx_catch (name := E) hown (tableOf pre) _ (tableOf suf) hsp (fun z hz9 => ?_) ?_ t5 (gword2 hz hW t6 rfl) (gword2 hz hW t7 rfl) hce hcv hcl ?_
      · unfold tableOf at hz9
        obtain ⟨z0, hz0, rfl⟩ := List.mem_map.mp hz9
        obtain ⟨w1, nm9, w2, w3⟩ := t8 z0 hz0
        exact Or.inr ⟨w1, nm9, gword2 hz hW w2 rfl, va_Nc.moved hW.alike (hz.2.2.2.2.2.2.2.1 _ w3)⟩
      · show covers _ pc = true
        unfold covers
        simp [t2, t3]
      · show W _ _ _ _ _ _ _ _ _ _ _ _ _ _ _ (F0 m x.2.2.1 ls [.ref q9])
        rw [t4]
        exact hKK _ _ _ _ _ _ (hk q9) H1 locs1 _ _ ls hl hR1 hS1 (by omega) (by omega)
  · exact j2.elim
theorem gs_callSX {y : MethodName} {bytes : ByteArray} {maxL n mc ms index dc : Nat} {ret0 : Option FieldType} {hh : List (Nat × Nat × Nat × Nat)} {T : gPT} (hM : gSp dc mc ms y [.codeWith y bytes maxL ret0 hh] T) (ht0 : tab = []) (hd : decode cc pc = .ok (.invokestatic index, 3)) (hdd : dc + 1 ≤ d) (hmax : maxL ≤ 21) (hw1 : Cond.codeWith y bytes maxL ret0 hh ∈ lw_tbl) (hw2 : Cond.initialized y.cls ∈ lw_tbl) (hw3 : Cond.methodLink own index y ∈ lw_tbl) (hw4 : Cond.static y ∈ lw_tbl)
    (hy : y.cls ≠ "java/lang/invoke/MethodHandle" ∧ y.cls ≠ "java/lang/invoke/VarHandle" ∧ (parseMethodDescriptor y.desc).map (fun d => d.parameters.length) = some n) : gSnd (own, cc, nL, ret, nm, tab, d) pc (gi_call n mc ms T) := by
  rintro ⟨G, p, e, s, m, args, below, meth, c, d', MC, MS⟩ Q ⟨hz, hd', hx, hb, hml, hr, hlk, hown, hnm, htab, hW, hzs, hzk⟩ K hKK lv st h kc ks k
  intro H locs cells slots ls hl hR hS hc hs
  dsimp only at hb hml hr hlk hown hnm htab hd'
  subst hd' ht0
  obtain ⟨k1, k2, k3, k4, k5⟩ := k
  refine g_call (vx_runSX (hh := hh) (bytes := bytes) (maxL := maxL) (ret := ret0) (n := n) (As := (st.take n).reverse) (rest := st.drop n) (Ts := []) ⟨hx, hb, hml, hown, fun w hw => by cases hw⟩ (hM G hz _ h _ k5) ⟨⟨rfl, rfl, hdd, by show 8 + (maxL + 11) + 40 * dc ≤ 40 * d'; omega, fun w hw a' U hU => ?_, List.mem_cons_self⟩, gword hz hW hw1 rfl, gword hz hW hw2 rfl, ⟨hy.1, hy.2.1⟩, fun sig hsig => ?_, gword hz hW hw3 rfl, gword hz hW hw4 rfl⟩ ⟨gPc_blind _ _ _, gPc_at hW hR⟩ rfl (by simp; omega) hl.1 (by simp) (lv_room k2) hd ⟨by show cells + mc ≤ MC; omega, by show slots + ms ≤ MS; omega⟩) hS (fun v h1 H1 locs1 hq hR1 hS1 => ?_) (fun E ce q9 h1 H1 locs1 hq hR1 hS1 hce hcv hcl => ?_)
  · rw [List.mem_singleton] at hw
    subst hw
    exact word_at hU (good_of_word rfl) (gword (args := args) hz hW hw1 rfl)
  · have h2 := hy.2.2
    rw [hsig] at h2
    exact (Option.some.inj h2).symm
  · exact hKK _ _ _ _ _ _ hq H1 locs1 _ _ ls hl hR1 hS1 (by omega) (by omega)
  · exact g_out htab hlk hq hR1 hS1 hce hcv hcl (by omega) (by omega)
end GHND
