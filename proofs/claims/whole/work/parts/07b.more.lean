/-! MORE INSTRUCTIONS: rows of references, the JDK's natives, texts, handlers -/
section GMORE
variable {own nm : String} {cc : ByteArray} {nL d : Nat} {ret : Option FieldType} {tab : List (Nat × Nat × Nat × Nat)} {pc : Nat}
abbrev gRef (f : Nat → Option Nat) : (Nat → Int32) ⊕ (Nat → Int64) ⊕ (Nat → UInt32) ⊕ (Nat → UInt64) ⊕ (Nat → Option Nat) := .inr (.inr (.inr (.inr f)))
/-- an object of ours that may stand in a row of Objects -/
def gObj (h : gH) (v : Nat) : Prop := match h v with
  | some (true, _, .inr (.inl (c, _))) => 3 ≤ c ∧ c ≤ 11
  | _ => False
theorem gObj.any {G : gG} {s : State} {h : gH} {H : Heap} {v : Nat} (hz : gZZ G) (hW : G.2.1.WarmedH s.vm) (hR : gR G.2.1 G.2.2.2.1 G.2.2.2.2 h H) (hv : gObj h v) : va_Any "java/lang/Object" s H v := by
  unfold gObj at hv
  split at hv
  · rename_i tg c fs hq
    have hK : va_K G.2.2.2.1 vwCl [] s := va_K.moved hW.alike hz.2.2.1
    obtain ⟨r, h1, h2⟩ := gR.obj hR hq
    have hc : Cond.castable r.1 "java/lang/Object" ∈ lw_tbl := by
      have hcc : ∀ c : Nat, 3 ≤ c → c ≤ 11 → ∀ r : vw_C, vwCl[c]? = some r → Cond.castable r.1 "java/lang/Object" ∈ lw_tbl := by
        intro c h3 h9 r hr
        have hcs : c = 3 ∨ c = 4 ∨ c = 5 ∨ c = 6 ∨ c = 7 ∨ c = 8 ∨ c = 9 ∨ c = 10 ∨ c = 11 := by omega
        rcases hcs with rfl | rfl | rfl | rfl | rfl | rfl | rfl | rfl | rfl <;> cases hr <;> decide +kernel
      exact hcc c hv.1 hv.2 r h1
    refine va_rAny (q0 := 0) hK (gP1 (q := (v, .inr (c, fs))) ⟨r, h1, h2⟩) rfl h1 (fun comp c0 hE hC => ?_)
    have h3 := va_Nw.warmC hW (va_Nw.of rfl (hz.2.1 _ hc))
    obtain ⟨c3, c4, hc3, hc4, hasg⟩ := Cond.castable_spec h3
    cases Option.some.inj (hC.symm.trans hc3)
    cases Option.some.inj (hE.symm.trans hc4)
    exact hasg
  · exact hv.elim
def gi_aald : gOp := fun K Q pc lv st h kc ks => match st with
  | .int i :: .ref a :: r => match h a with
    | some (true, _, .inl (ty, n, .inr (.inr (.inr (.inr f))))) => ty = tObj ∧ vp_in i n ∧ K (pc + 1) lv (va_rf (f i.toNatClampNeg) :: r) h kc ks
    | _ => False
  | _ => False
theorem gs_aald (hd : decode cc pc = .ok (.aaload, 1)) : gSnd (own, cc, nL, ret, nm, tab, d) pc gi_aald := by
  rintro ⟨G, p, e, s, m, args, below, meth, c, d', MC, MS⟩ Q ⟨hz, hd', hx, hb, hml, hr, hlk, hown, hnm, htab, hW, hzs, hzk⟩ K hKK lv st h kc ks k
  intro H locs cells slots ls hl hR hS hc hs
  dsimp only at hb hml hr hlk hown hnm htab hd'
  unfold gi_aald at k
  split at k
  · rename_i i a r
    split at k
    · rename_i tg ty0 n f hq
      obtain ⟨rfl, hin, k⟩ := k
      obtain ⟨cell, h1, h2, h3, h4, h5, h6⟩ := hR.arr hq
      have hlt : i.toNatClampNeg < n := Nat.not_le.mp fun q => hin (Or.inr q)
      exact W.aald (v := va_rf (f i.toNatClampNeg)) hx hb h1 (State.isArrayOf_alike hW.alike h2) rfl h3 (fun q => q.elim (fun q => hin (Or.inl q)) (fun q => by omega)) (h6 _ hlt) rfl rfl hd (hKK _ _ _ _ _ _ k H locs cells slots ls hl hR hS hc hs)
    · exact k.elim
  · exact k.elim
def gi_aast : gOp := fun K Q pc lv st h kc ks => match st with
  | v :: .int i :: .ref a :: r => match h a with
    | some (true, tg, .inl (ty, n, .inr (.inr (.inr (.inr f))))) => ty = tObj ∧ vp_in i n ∧ (match v with
      | .ref x => gObj h x ∧ K (pc + 1) lv r (gset h a (true, tg, .inl (ty, n, gRef (gup f i.toNatClampNeg (some x))))) kc ks
      | .null => K (pc + 1) lv r (gset h a (true, tg, .inl (ty, n, gRef (gup f i.toNatClampNeg none)))) kc ks
      | _ => False)
    | _ => False
  | _ => False
theorem gs_aast (hd : decode cc pc = .ok (.aastore, 1)) : gSnd (own, cc, nL, ret, nm, tab, d) pc gi_aast := by
  rintro ⟨G, p, e, s, m, args, below, meth, c, d', MC, MS⟩ Q ⟨hz, hd', hx, hb, hml, hr, hlk, hown, hnm, htab, hW, hzs, hzk⟩ K hKK lv st h kc ks k
  intro H locs cells slots ls hl hR hS hc hs
  dsimp only at hb hml hr hlk hown hnm htab hd'
  unfold gi_aast at k
  split at k
  · rename_i v i a r
    split at k
    · rename_i tg ty0 n f hq
      obtain ⟨rfl, hin, k⟩ := k
      obtain ⟨cA, h1, h2, h3⟩ := hR.arrW hq
      have hlt : i.toNatClampNeg < n := Nat.not_le.mp fun q => hin (Or.inr q)
      have h0 : ¬ i < 0 := fun q => hin (Or.inl q)
      split at k
      · rename_i x
        obtain ⟨cellV, g1, g3, ⟨kC, hkC⟩, hasg⟩ := k.1.any hz hW hR
        obtain ⟨kA, comp, k1, k2, k3, -⟩ := va_RA.moved hW.alike h3
        obtain ⟨kE, hkE, -⟩ := Vm.findClass_spec k3
        refine W.aast hx hb h1 (fun q h => by cases h) (fun h => by cases h) k1 k2 rfl hkE ⟨h0, by show _ < (arrV _ _ _).slots.size; rw [arrV_size]; exact hlt⟩ g1 (fun q h => by rw [h] at g3; cases g3) hkC (hasg _ k3) rfl rfl hd fun H1 e1 e2 e3 => ?_
        refine hKK _ _ _ _ _ _ k.2 H1 _ cells slots ls hl (hR.set (e0 := .inl (tObj, n, gRef f)) (e := .inl (tObj, n, gRef (gup f i.toNatClampNeg (some x)))) hq e2 e3 (fun h1 hid => ⟨hR.own hq, cA, ?_, h2, h3⟩)) (hS.put e2 e3 (hR.own hq)) hc hs
        rw [e1, vp_cell_gel, vp_cell_gel, arrV_store]
        congr 2
        funext q
        by_cases hq : q = i.toNatClampNeg
        · subst hq
          simp [updV, gup, gel, va_rf]
        · simp [updV, gup, gel, hq]
      · refine va_WaastN (C := "java/lang/Object") hx hb h1 ((arrOfT_moved hW.alike h2) n (fun j => va_rf (f j))) (fun h => by cases h) (by show ¬ (i < 0 ∨ (arrV _ _ _).slots.size ≤ _); rw [arrV_size]; exact hin) rfl rfl hd fun H1 e1 e2 e3 => ?_
        refine hKK _ _ _ _ _ _ k H1 _ cells slots ls hl (hR.set (e0 := .inl (tObj, n, gRef f)) (e := .inl (tObj, n, gRef (gup f i.toNatClampNeg none))) hq e2 e3 (fun h1 hid => ⟨hR.own hq, cA, ?_, h2, h3⟩)) (hS.put e2 e3 (hR.own hq)) hc hs
        rw [e1, vp_cell_gel, vp_cell_gel, arrV_store]
        congr 2
        funext q
        by_cases hq : q = i.toNatClampNeg
        · subst hq
          simp [updV, gup, gel, va_rf]
        · simp [updV, gup, gel, hq]
      · exact k.elim
    · exact k.elim
  · exact k.elim
def gi_anewa (tg : Nat) : gOp := fun K Q pc lv st h kc ks => match st with
  | .int n :: r => ¬ n < 0 ∧ n.toNatClampNeg * 4 ≤ 536870912 ∧ 1 ≤ kc ∧ n.toNatClampNeg ≤ ks ∧ ∀ q : Nat, h q = none → K (pc + 3) lv (.ref q :: r) (gset h q (true, tg, .inl (tObj, n.toNatClampNeg, gRef (fun _ => none)))) (kc - 1) (ks - n.toNatClampNeg)
  | _ => False
theorem gs_anewa {tg index : Nat} (hd : decode cc pc = .ok (.anewarray index, 3)) (hw : Cond.classLink own index "java/lang/Object" ∈ lw_tbl) (hw2 : Cond.arrayOver (.object "java/lang/Object") ∈ lw_tbl) : gSnd (own, cc, nL, ret, nm, tab, d) pc (gi_anewa tg) := by
  rintro ⟨G, p, e, s, m, args, below, meth, c, d', MC, MS⟩ Q ⟨hz, hd', hx, hb, hml, hr, hlk, hown, hnm, htab, hW, hzs, hzk⟩ K hKK lv st h kc ks k
  intro H locs cells slots ls hl hR hS hc hs
  dsimp only at hb hml hr hlk hown hnm htab hd'
  unfold gi_anewa at k
  split at k
  · rename_i n r
    obtain ⟨k0, k1, k2, k3, k⟩ := k
    refine W.anew hx hb hown (gword hz hW hw rfl) (va_AO.use (va_AO.moved hW.alike (va_AO.of (hz.2.1 _ hw2)))) rfl hd rfl k0 k1 (by show cells + 1 ≤ MC; omega) (by show slots + _ ≤ MS; omega) fun cA kA comp f1 f2 f3 f4 => ?_
    generalize hH1 : H.push ({ cls := cA, slots := Array.replicate n.toNatClampNeg .null, vm := .none } : Cell) = H1
    have z1 : H1.size = H.size + 1 := by rw [← hH1, Array.size_push]
    have e1 : H1[H.size]? = some (arrV cA n.toNatClampNeg (fun _ => .null)) := by rw [← hH1, Array.getElem?_push_size, ← arrV_new]
    have o1 : ∀ q : Nat, q < H.size → H1[q]? = H[q]? := fun q hq => by rw [← hH1, Array.getElem?_push, if_neg (Nat.ne_of_lt hq)]
    have hback : s.vm.Alike G.2.1.vm := hW.alike.symm
    have hAr : ArrOfT s cA tObj := fun N z => ⟨(fun k h => by cases h), kA, f2, comp, f3⟩
    refine hKK _ _ _ _ _ _ (k H.size (hR.none (Nat.le_refl _))) H1 locs (cells + 1) (slots + _) ls hl (hR.new tg (e := .inl (tObj, n.toNatClampNeg, gRef (fun _ => none))) z1 o1 (fun h1 hid => ⟨hR.1, cA, ?_, arrOfT_moved hback hAr, va_RA.moved hback ⟨kA, comp, f2, f3, f4, f1⟩⟩)) ⟨Nat.le_trans hS.1 (by omega), fun x h1 h2 => (o1 x (Nat.lt_of_lt_of_le h1 hS.1)).trans (hS.2.1 x h1 h2), hS.2.2⟩ (by omega) (by omega)
    rw [e1, vp_cell_gel]
    rfl
  · exact k.elim
/-- ArrayList's own empty row; COMPACT_STRINGS; a text -/
def gi_getsED : gOp := fun K Q pc lv st h kc ks => ∃ e0 x, h e0 = some (false, 77, .inl x) ∧ K (pc + 3) lv (.ref e0 :: st) h kc ks
theorem gs_getsED {index : Nat} (hd : decode cc pc = .ok (.getstatic index, 3)) (hw : Cond.fieldLink own index RJx4a65c "DEFAULTCAPACITY_EMPTY_ELEMENTDATA" "[Ljava/lang/Object;" ∈ lw_tbl) : gSnd (own, cc, nL, ret, nm, tab, d) pc gi_getsED := by
  rintro ⟨G, p, e, s, m, args, below, meth, c, d', MC, MS⟩ Q ⟨hz, hd', hx, hb, hml, hr, hlk, hown, hnm, htab, hW, hzs, hzk⟩ K hKK lv st h kc ks k
  intro H locs cells slots ls hl hR hS hc hs
  dsimp only at hb hml hr hlk hown hnm htab hd'
  obtain ⟨e0, x, hq, k⟩ := k
  have he : e0 = G.2.2.2.2 := by
    obtain ⟨g1, g2, hid, g3, -⟩ := id hR
    exact (g3 e0 _ hq).1 rfl
  subst he
  have hA : ∀ a : Nat, a < G.2.1.heap.size → ¬ (fun q => G.2.1.heap.size ≤ q) a → s.heap[a]? = G.2.1.heap[a]? := fun a h1 _ => hzk a h1
  exact va_gets hx hb ((va_Z.moved hW.alike hz.2.2.2.1.1).kept hA) hS hown (gword hz hW hw rfl) (fun _ h => h) hd (hKK _ _ _ _ _ _ k H locs cells slots ls hl hR hS hc hs)
theorem gs_getsCS {index : Nat} (hd : decode cc pc = .ok (.getstatic index, 3)) (hw : Cond.fieldLink own index RJ0 "COMPACT_STRINGS" "Z" ∈ lw_tbl) : gSnd (own, cc, nL, ret, nm, tab, d) pc (gi_k (.int (nI 1)) 3) := by
  rintro ⟨G, p, e, s, m, args, below, meth, c, d', MC, MS⟩ Q ⟨hz, hd', hx, hb, hml, hr, hlk, hown, hnm, htab, hW, hzs, hzk⟩ K hKK lv st h kc ks k
  intro H locs cells slots ls hl hR hS hc hs
  dsimp only at hb hml hr hlk hown hnm htab hd'
  have hA : ∀ a : Nat, a < G.2.1.heap.size → ¬ (fun q => G.2.1.heap.size ≤ q) a → s.heap[a]? = G.2.1.heap[a]? := fun a h1 _ => hzk a h1
  exact va_gets hx hb ((va_Z.moved hW.alike hz.2.2.2.2.2.2.2.2.1).kept hA) hS hown (gword hz hW hw rfl) (fun _ h => h) hd (hKK _ _ _ _ _ _ k H locs cells slots ls hl hR hS hc hs)
def gi_ldcK : gOp := fun K Q pc lv st h kc ks => ∃ e0 o, h e0 = some (false, 78, .inr (.inl o)) ∧ K (pc + 3) lv (.ref e0 :: st) h kc ks
theorem gs_ldcK (hd : decode cc pc = .ok (.ldc_w 278, 3)) (hw : own = RX6) : gSnd (own, cc, nL, ret, nm, tab, d) pc gi_ldcK := by
  rintro ⟨G, p, e, s, m, args, below, meth, c, d', MC, MS⟩ Q ⟨hz, hd', hx, hb, hml, hr, hlk, hown, hnm, htab, hW, hzs, hzk⟩ K hKK lv st h kc ks k
  intro H locs cells slots ls hl hR hS hc hs
  dsimp only at hb hml hr hlk hown hnm htab hd'
  subst hw
  obtain ⟨e0, x, hq, k⟩ := k
  have he : vk_R RX6 278 "rojlsexmp" e0 G.2.1 := by
    obtain ⟨g1, g2, hid, g3, -⟩ := id hR
    exact (g3 e0 _ hq).1 rfl
  have hZ := vk_R.warm hW he
  intro T hT X
  obtain ⟨t, a1, b1⟩ := hKK _ _ _ _ _ _ k H locs cells slots ls hl hR hS hc hs T hT X
  exact ⟨t, X.ldcStringW hx hown (text := "rojlsexmp") (a := e0) hZ.1 hZ.2 (g := F0 m pc ls st) rfl (by rw [hb]; exact hd) t a1, b1⟩
/-- 'throw new E("text")', the text by a wide index -/
theorem gs_thrW {E text : String} {ik is ic : Nat} {names : List String} (ht0 : tab = []) (d0 : decode cc pc = .ok (.new ik, 3)) (d3 : decode cc (pc + 3) = .ok (.dup, 1)) (d4 : decode cc (pc + 4) = .ok (.ldc_w is, 3)) (d7 : decode cc (pc + 7) = .ok (.invokespecial ic, 3)) (d10 : decode cc (pc + 10) = .ok (.athrow, 1))
    (hcls : Bundle.fit E = true) (hnames : ∀ n ∈ names, Bundle.fit n = true) (hn2 : names.length ≤ 2) (hd6 : 6 ≤ d) (hw1 : Cond.classLink own ik E ∈ lw_tbl) (hw2 : Cond.initialized E ∈ lw_tbl) (hstr : (own, is, text) ∈ gStr) (hat : ∀ w ∈ vx_atS own ic E names, w ∈ lw_tbl ∧ gok w = true) (hgood : ∀ w ∈ Cond.classLink own ik E :: Cond.initialized E :: vx_atS own ic E names, vx_ot w = true) : gSnd (own, cc, nL, ret, nm, tab, d) pc (gi_thr E) := by
  rintro ⟨G, p, e, s, m, args, below, meth, c, d', MC, MS⟩ Q ⟨hz, hd', hx, hb, hml, hr, hlk, hown, hnm, htab, hW, hzs, hzk⟩ K hKK lv st h kc ks k
  intro H locs cells slots ls hl hR hS hc hs
  dsimp only at hb hml hr hlk hown hnm htab hd'
  subst hd' ht0
  obtain ⟨k1, k2, k3, k⟩ := k
  obtain ⟨sa, hsa⟩ := hz.2.2.2.2.2.2.1 _ hstr
  have hA : ∀ a : Nat, a < G.2.1.heap.size → ¬ (fun q => G.2.1.heap.size ≤ q) a → s.heap[a]? = G.2.1.heap[a]? := fun a h1 _ => hzk a h1
  refine vx_throwSW hx hb hz.1 (text := text) (names := names) hown hcls hnames (gword hz hW hw1 rfl) (gword hz hW hw2 rfl) (vk_R.warm hW hsa) (fun w hw => gword2 hz hW (hat w hw).1 (hat w hw).2) hgood ((vx_Zq.moved hW.alike hz.2.2.2.2.1).kept hA) ((vx_Zq.moved hW.alike hz.2.2.2.2.2.1).kept hA) hS (hl.1.trans hml.symm) d0 d3 d4 d7 d10 (fun x hx => by rw [htab] at hx; cases hx) (by show names.length + 3 < d'; omega) ?_ (by show cells + 1 ≤ MC; omega) (by show slots + 6 ≤ MS; omega) hlk (fun t ht h1 h2 => ⟨⟨h, k, hR.far h1 h2⟩, Nat.le_trans hS.1 h1, fun q q1 q2 => (h2 q (Nat.lt_of_lt_of_le q1 hS.1)).trans (hS.2.1 q q1 q2)⟩) hS.2.2 (by omega) (by omega)
  show _ ≤ 40 * d'
  omega
/-- Math.max, Math.min -/
def gi_mmax : gOp := fun K Q pc lv st h kc ks => match st with
  | .int y :: .int x :: r => (r.map fun v => v.category).sum ≤ 8 ∧ K (pc + 3) lv (.int (if x < y then y else x) :: r) h kc ks
  | _ => False
def gi_mmin : gOp := fun K Q pc lv st h kc ks => match st with
  | .int y :: .int x :: r => (r.map fun v => v.category).sum ≤ 8 ∧ K (pc + 3) lv (.int (if y < x then y else x) :: r) h kc ks
  | _ => False
theorem gs_mmax {index : Nat} (hd : decode cc pc = .ok (.invokestatic index, 3)) (hd1 : 1 ≤ d) (hw1 : Cond.methodLink own index Lib.Math.max.name ∈ lw_tbl) (hw2 : Cond.static Lib.Math.max.name ∈ lw_tbl) (hw3 : Cond.initialized "java/lang/Math" ∈ lw_tbl) (hw4 : Cond.code Lib.Math.max.name Lib.Math.max.code 2 (some .int) ∈ lw_tbl) : gSnd (own, cc, nL, ret, nm, tab, d) pc gi_mmax := by
  rintro ⟨G, p, e, s, m, args, below, meth, c, d', MC, MS⟩ Q ⟨hz, hd', hx, hb, hml, hr, hlk, hown, hnm, htab, hW, hzs, hzk⟩ K hKK lv st h kc ks k
  intro H locs cells slots ls hl hR hS hc hs
  dsimp only at hb hml hr hlk hown hnm htab hd'
  subst hd'
  unfold gi_mmax at k
  split at k
  · exact va_mmax hx hb (hml.trans hl.1.symm) hown (gword hz hW hw1 rfl) (gword hz hW hw2 rfl) (gword hz hW hw3 rfl) (gword hz hW hw4 rfl) hd1 (by show _ + 13 ≤ 40 * d'; omega) (by show cells ≤ MC; omega) (by show slots ≤ MS; omega) hd (hKK _ _ _ _ _ _ k.2 H locs cells slots ls hl hR hS hc hs)
  · exact k.elim
theorem gs_mmin {index : Nat} (hd : decode cc pc = .ok (.invokestatic index, 3)) (hd1 : 1 ≤ d) (hw1 : Cond.methodLink own index Lib.Math.min.name ∈ lw_tbl) (hw2 : Cond.static Lib.Math.min.name ∈ lw_tbl) (hw3 : Cond.initialized "java/lang/Math" ∈ lw_tbl) (hw4 : Cond.code Lib.Math.min.name Lib.Math.min.code 2 (some .int) ∈ lw_tbl) : gSnd (own, cc, nL, ret, nm, tab, d) pc gi_mmin := by
  rintro ⟨G, p, e, s, m, args, below, meth, c, d', MC, MS⟩ Q ⟨hz, hd', hx, hb, hml, hr, hlk, hown, hnm, htab, hW, hzs, hzk⟩ K hKK lv st h kc ks k
  intro H locs cells slots ls hl hR hS hc hs
  dsimp only at hb hml hr hlk hown hnm htab hd'
  subst hd'
  unfold gi_mmin at k
  split at k
  · exact va_mmin hx hb (hml.trans hl.1.symm) hown (gword hz hW hw1 rfl) (gword hz hW hw2 rfl) (gword hz hW hw3 rfl) (gword hz hW hw4 rfl) hd1 (by show _ + 13 ≤ 40 * d'; omega) (by show cells ≤ MC; omega) (by show slots ≤ MS; omega) hd (hKK _ _ _ _ _ _ k.2 H locs cells slots ls hl hR hS hc hs)
  · exact k.elim
/-- the bits of a float, of a double -/
def gi_rawf : gOp := fun K Q pc lv st h kc ks => match st with
  | .float b :: r => (r.map fun v => v.category).sum ≤ 8 ∧ K (pc + 3) lv (.int b.toInt32 :: r) h kc ks
  | _ => False
def gi_rawd : gOp := fun K Q pc lv st h kc ks => match st with
  | .double b :: r => (r.map fun v => v.category).sum ≤ 8 ∧ K (pc + 3) lv (.long b.toInt64 :: r) h kc ks
  | _ => False
theorem gs_rawf {index : Nat} (hd : decode cc pc = .ok (.invokestatic index, 3)) (hd1 : 1 ≤ d) (hw1 : Cond.methodLink own index ⟨"java/lang/Float", "floatToRawIntBits", "(F)I"⟩ ∈ lw_tbl) (hw2 : Cond.native ⟨"java/lang/Float", "floatToRawIntBits", "(F)I"⟩ ∈ lw_tbl) (hw3 : Cond.static ⟨"java/lang/Float", "floatToRawIntBits", "(F)I"⟩ ∈ lw_tbl) (hw4 : Cond.initialized "java/lang/Float" ∈ lw_tbl) : gSnd (own, cc, nL, ret, nm, tab, d) pc gi_rawf := by
  rintro ⟨G, p, e, s, m, args, below, meth, c, d', MC, MS⟩ Q ⟨hz, hd', hx, hb, hml, hr, hlk, hown, hnm, htab, hW, hzs, hzk⟩ K hKK lv st h kc ks k
  intro H locs cells slots ls hl hR hS hc hs
  dsimp only at hb hml hr hlk hown hnm htab hd'
  subst hd'
  unfold gi_rawf at k
  split at k
  · exact vn_f2i hx hb (hml.trans hl.1.symm) hown (gword hz hW hw1 rfl) (gword hz hW hw2 rfl) (gword hz hW hw3 rfl) (gword hz hW hw4 rfl) hd1 (by show _ + 15 ≤ 40 * d'; omega) hd (hKK _ _ _ _ _ _ k.2 H locs cells slots ls hl hR hS hc hs)
  · exact k.elim
theorem gs_rawd {index : Nat} (hd : decode cc pc = .ok (.invokestatic index, 3)) (hd1 : 1 ≤ d) (hw1 : Cond.methodLink own index ⟨"java/lang/Double", "doubleToRawLongBits", "(D)J"⟩ ∈ lw_tbl) (hw2 : Cond.native ⟨"java/lang/Double", "doubleToRawLongBits", "(D)J"⟩ ∈ lw_tbl) (hw3 : Cond.static ⟨"java/lang/Double", "doubleToRawLongBits", "(D)J"⟩ ∈ lw_tbl) (hw4 : Cond.initialized "java/lang/Double" ∈ lw_tbl) : gSnd (own, cc, nL, ret, nm, tab, d) pc gi_rawd := by
  rintro ⟨G, p, e, s, m, args, below, meth, c, d', MC, MS⟩ Q ⟨hz, hd', hx, hb, hml, hr, hlk, hown, hnm, htab, hW, hzs, hzk⟩ K hKK lv st h kc ks k
  intro H locs cells slots ls hl hR hS hc hs
  dsimp only at hb hml hr hlk hown hnm htab hd'
  subst hd'
  unfold gi_rawd at k
  split at k
  · exact vn_d2l hx hb (hml.trans hl.1.symm) hown (gword hz hW hw1 rfl) (gword hz hW hw2 rfl) (gword hz hW hw3 rfl) (gword hz hW hw4 rfl) hd1 (by show _ + 15 ≤ 40 * d'; omega) hd (hKK _ _ _ _ _ _ k.2 H locs cells slots ls hl hR hS hc hs)
  · exact k.elim
/-- System.arraycopy between rows of Objects -/
def gi_acopy : gOp := fun K Q pc lv st h kc ks => match st with
  | .int n :: .int dp :: .ref a :: .int sp :: .ref a0 :: r => (r.map fun v => v.category).sum ≤ 8 ∧ ¬ sp < 0 ∧ ¬ dp < 0 ∧ ¬ n < 0 ∧ (match h a0, h a with
    | some (true, _, .inl (ty0, n0, .inr (.inr (.inr (.inr f))))), some (true, tg, .inl (ty1, n1, .inr (.inr (.inr (.inr g))))) => ty0 = tObj ∧ ty1 = tObj ∧ sp.toNatClampNeg + n.toNatClampNeg ≤ n0 ∧ dp.toNatClampNeg + n.toNatClampNeg ≤ n1 ∧ (∀ i : Nat, i < n.toNatClampNeg → ∀ y : Nat, f (sp.toNatClampNeg + i) = some y → gObj h y) ∧
      K (pc + 3) lv r (gset h a (true, tg, .inl (tObj, n1, gRef (va_cpy f g sp.toNatClampNeg dp.toNatClampNeg n.toNatClampNeg)))) kc ks
    | _, _ => False)
  | _ => False
theorem gs_acopy {index : Nat} (hd : decode cc pc = .ok (.invokestatic index, 3)) (hd1 : 2 ≤ d) (hw1 : Cond.methodLink own index arraycopyName ∈ lw_tbl) (hw2 : Cond.native arraycopyName ∈ lw_tbl) (hw3 : Cond.static arraycopyName ∈ lw_tbl) (hw4 : Cond.initialized "java/lang/System" ∈ lw_tbl) : gSnd (own, cc, nL, ret, nm, tab, d) pc gi_acopy := by
  rintro ⟨G, p, e, s, m, args, below, meth, c, d', MC, MS⟩ Q ⟨hz, hd', hx, hb, hml, hr, hlk, hown, hnm, htab, hW, hzs, hzk⟩ K hKK lv st h kc ks k
  intro H locs cells slots ls hl hR hS hc hs
  dsimp only at hb hml hr hlk hown hnm htab hd'
  subst hd'
  unfold gi_acopy at k
  split at k
  · rename_i n dp a sp a0 r
    obtain ⟨k0, h1, h2, h3, k⟩ := k
    split at k
    · rename_i t0 ty0 n0 f tg ty1 n1 g hq0 hq1
      obtain ⟨rfl, rfl, h4, h5, hel, k⟩ := k
      have nn : ∀ w : Int32, ¬ w < 0 → w.toInt = (w.toNatClampNeg : Int) := by
        intro w hw
        have hw0 : (0 : Int) ≤ w.toInt := by
          have := Int32.not_lt.mp hw
          simpa using Int32.le_iff_toInt_le.mp this
        show w.toInt = ((w.toInt.toNat : Nat) : Int)
        omega
      obtain ⟨c0, hc0, hA0, hA0r⟩ := hR.arrW hq0
      obtain ⟨c1, hc1, hA1, hA1r⟩ := hR.arrW hq1
      have hA0 := arrOfT_moved hW.alike hA0
      have hA1s := arrOfT_moved hW.alike hA1
      obtain ⟨-, k0', hk0, cm0, hkk0⟩ := hA0 n0 (fun j => va_rf (f j))
      obtain ⟨-, k1', hk1, cm1, hkk1⟩ := hA1s n1 (fun j => va_rf (g j))
      have hnw : nativeFrameWords "java/lang/System" "arraycopy" 5 ≤ 30 := by decide +kernel
      intro T hT X
      obtain ⟨vm', X', step⟩ := X.arraycopy hx hown (gword hz hW hw1 rfl) (gword hz hW hw2 rfl) (gword hz hW hw3 rfl) (gword hz hW hw4 rfl) (src := a0) (dst := a) (cs := vp_cell c0 (n0, gRef f)) (cd := vp_cell c1 (n1, gRef g)) (srcPos := sp) (destPos := dp) (n := n) (by rw [hT]; exact hc0) (by rw [hT]; exact hc1)
        (fun _ h => by cases h) (fun _ h => by cases h) (fun h => by cases h) (fun h => by cases h) hk0 hk1 hkk0 hkk1 rfl h1 h2 h3
        (by rw [nn sp h1, nn n h3]; show ¬ _ > ((arrV c0 n0 (fun j => va_rf (f j))).slots.size : Int); rw [arrV_size]; omega)
        (by rw [nn dp h2, nn n h3]; show ¬ _ > ((arrV c1 n1 (fun j => va_rf (g j))).slots.size : Int); rw [arrV_size]; omega)
        (fun vm₁ hal i hi => by
          have e : (vp_cell c0 (n0, gRef f)).slots.getD (sp.toNatClampNeg + i) .null = va_rf (f (sp.toNatClampNeg + i)) := by
            show (arrV c0 n0 (fun j => va_rf (f j))).slots.getD _ _ = _
            rw [Array.getD_eq_getD_getElem?, arrV_read _ _ (by omega)]
            rfl
          rw [e]
          cases hy : f (sp.toNatClampNeg + i) with
          | none => exact ⟨rfl, trivial⟩
          | some y =>
            obtain ⟨cellV, g1, g2, ⟨kC, hkC⟩, hasg⟩ := (hel i hi y hy).any hz hW hR
            obtain ⟨kA, comp, r1, r2, r3, -⟩ := va_RA.moved hW.alike hA1r
            cases hk1.symm.trans r1
            cases hkk1.symm.trans r2
            obtain ⟨kE, hkE, -⟩ := Vm.findClass_spec r3
            obtain ⟨kC', hkC', -⟩ := hal.2.2 _ _ hkC
            obtain ⟨kE', hkE', -⟩ := hal.2.2 _ _ hkE
            refine ⟨rfl, cellV, (show T.heap[y]? = some cellV by rw [hT]; exact g1), (fun q h => by rw [h] at g2; cases g2), ⟨kC', hkC'⟩, ?_, ?_⟩
            · exact ⟨kE', hkE'⟩
            · show vm₁.assignable _ _ = true
              rw [hal.assignable]
              exact hasg _ r3)
        (g := F0 m pc ls (.int n :: .int dp :: .ref a :: .int sp :: .ref a0 :: r)) rfl (hl.1.trans hml.symm) (rest := r) rfl (by rw [hb]; exact hd) (by show 1 ≤ d'; omega) (by show 2 * 0 + _ + _ ≤ 40 * d'; omega)
      have e1 : copied (vp_cell c0 (n0, gRef f)) (vp_cell c1 (n1, gRef g)) sp dp n = vp_cell c1 (n1, gRef (va_cpy f g sp.toNatClampNeg dp.toNatClampNeg n.toNatClampNeg)) := by
        rw [vp_cell_q, vp_cell_q, vp_cell_q]
        exact va_copied (fun z => va_rf z) c0 c1 f g h4
      rw [e1] at X' step
      have hl1 : a < H.size := (Array.getElem?_eq_some_iff.mp hc1).1
      generalize hH1 : H.setIfInBounds a (vp_cell c1 (n1, gRef (va_cpy f g sp.toNatClampNeg dp.toNatClampNeg n.toNatClampNeg))) = H1
      have hheap : ((T.setVm vm').setCell a (vp_cell c1 (n1, gRef (va_cpy f g sp.toNatClampNeg dp.toNatClampNeg n.toNatClampNeg)))).heap = H1 := by rw [← hH1, ← hT]; rfl
      have q1 : H1[a]? = some (vp_cell c1 (n1, gRef (va_cpy f g sp.toNatClampNeg dp.toNatClampNeg n.toNatClampNeg))) := by rw [← hH1]; simp [Array.getElem?_setIfInBounds, hl1]
      have q2 : H1.size = H.size := by rw [← hH1]; simp
      have q3 : ∀ q : Nat, q ≠ a → H1[q]? = H[q]? := fun q hq => by rw [← hH1]; simp [Array.getElem?_setIfInBounds, Ne.symm hq]
      obtain ⟨t, a1, b1⟩ := hKK _ _ _ _ _ _ k H1 _ cells slots ls hl (hR.set (e0 := .inl (tObj, n1, gRef g)) (e := .inl (tObj, n1, gRef (va_cpy f g sp.toNatClampNeg dp.toNatClampNeg n.toNatClampNeg))) hq1 q2 q3 (fun h1 hid => ⟨hR.own hq1, c1, q1, hA1, hA1r⟩)) ⟨by rw [q2]; exact hS.1, fun q g1 g2 => by
          rw [q3 q (fun e => g2 (by rw [e]; exact hR.own hq1))]
          exact hS.2.1 q g1 g2, fun q hq => by
          rcases List.mem_append.mp hq with h | h
          · exact hS.2.2 q h
          · obtain ⟨z9, -, hz9⟩ := List.mem_map.mp h
            rw [← hz9]
            exact hR.own hq1⟩ hc hs _ hheap X'
      exact ⟨t, step t a1, b1⟩
    · exact k.elim
  · exact k.elim
end GMORE
