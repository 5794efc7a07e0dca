/-! ONE INSTRUCTION AS A TRANSFORMER over the world, and its soundness over the machine -/
abbrev gX : Type := gG × Program × Env × State × MethodId × Array Value × List Frame × Method × Code × Nat × Nat × Nat
def gd (nL : Nat) (X : gX) (Q : gQ) : gK := match X with
  | (G, p, e, s, m, args, below, meth, c, d, MC, MS) => fun pc lv st h kc ks => ∀ (H : Heap) (locs : List Loc) (cells slots : Nat) (ls : Array Slot), gLv ls nL lv → gR G.2.1 G.2.2.2.1 G.2.2.2.2 h H → va_S (fun q => G.2.1.heap.size ≤ q) s.heap H locs → cells + kc ≤ MC → slots + ks ≤ MS →
    W p G.1 e (gRm d MC MS) s m args below meth c H locs cells slots (vx_MQ below (gQc G Q) (gXC G Q) args s MC MS (fun q => G.2.1.heap.size ≤ q)) (F0 m pc ls st)
def gC (own : String) (cc : ByteArray) (nL : Nat) (ret : Option FieldType) (nm : String) (tab : List (Nat × Nat × Nat × Nat)) (d : Nat) (X : gX) : Prop := match X with
  | (G, p, e, s, m, args, below, meth, c, d', MC, MS) => gZZ G ∧ d' = d ∧ p.tables.exec = Jvm.exec ∧ c.code = cc ∧ c.maxLocals = nL ∧ meth.sig.returnType = ret ∧ meth.locks = false ∧ s.vm.findClass own = some m.cls ∧ meth.name = nm ∧ c.exceptionTable.toList = tableOf tab ∧ G.2.1.WarmedH s.vm ∧ G.2.1.heap.size ≤ s.heap.size ∧ ∀ q : Nat, q < G.2.1.heap.size → s.heap[q]? = G.2.1.heap[q]?
/-- sound at pc of a method (its class, code, places, answer's kind, name, handlers, frames) -/
abbrev gM : Type := String × ByteArray × Nat × Option FieldType × String × List (Nat × Nat × Nat × Nat) × Nat
def gSnd (M : gM) (pc : Nat) (op : gOp) : Prop := ∀ (X : gX) (Q : gQ), gC M.1 M.2.1 M.2.2.1 M.2.2.2.1 M.2.2.2.2.1 M.2.2.2.2.2.1 M.2.2.2.2.2.2 X → ∀ K : gK, (∀ pc lv st h kc ks, K pc lv st h kc ks → gd M.2.2.1 X Q pc lv st h kc ks) → ∀ lv st h kc ks, op K Q pc lv st h kc ks → gd M.2.2.1 X Q pc lv st h kc ks
/-- a good word of the tables, at any method's start -/
theorem gword {G : gG} {s : State} {args : Array Value} (hz : gZZ G) (hW : G.2.1.WarmedH s.vm) {w : Cond} (hw : w ∈ lw_tbl) (hg : goodWord w = true) : w.before args s = true := word_at hW (good_of_word hg) (hz.2.1 w hw)
section GOPS
variable {own nm : String} {cc : ByteArray} {nL d : Nat} {ret : Option FieldType} {tab : List (Nat × Nat × Nat × Nat)} {pc : Nat}
def gi_k (v : Value) (len : Nat) : gOp := fun K Q pc lv st h kc ks => K (pc + len) lv (v :: st) h kc ks
theorem gs_iconst {n : Int} {v : Int32} (hd : decode cc pc = .ok (.iconst n, 1)) (hv : Int32.ofInt n = v) : gSnd (own, cc, nL, ret, nm, tab, d) pc (gi_k (.int v) 1) := by
  rintro ⟨G, p, e, s, m, args, below, meth, c, d', MC, MS⟩ Q ⟨hz, hd', hx, hb, hml, hr, hlk, hown, hnm, htab, hW, hzs, hzk⟩ K hKK lv st h kc ks k
  intro H locs cells slots ls hl hR hS hc hs
  dsimp only at hb hml hr hlk hown hnm htab hd'
  exact lv_iconst hx hb hd hv (hKK _ _ _ _ _ _ (k) H locs cells slots ls hl hR hS hc hs)
theorem gs_bipush {n : Int} {v : Int32} (hd : decode cc pc = .ok (.bipush n, 2)) (hv : (Int8.ofInt n).toInt32 = v) : gSnd (own, cc, nL, ret, nm, tab, d) pc (gi_k (.int v) 2) := by
  rintro ⟨G, p, e, s, m, args, below, meth, c, d', MC, MS⟩ Q ⟨hz, hd', hx, hb, hml, hr, hlk, hown, hnm, htab, hW, hzs, hzk⟩ K hKK lv st h kc ks k
  intro H locs cells slots ls hl hR hS hc hs
  dsimp only at hb hml hr hlk hown hnm htab hd'
  exact lv_bipush hx hb hd hv (hKK _ _ _ _ _ _ (k) H locs cells slots ls hl hR hS hc hs)
theorem gs_sipush {n : Int} {v : Int32} (hd : decode cc pc = .ok (.sipush n, 3)) (hv : (Int16.ofInt n).toInt32 = v) : gSnd (own, cc, nL, ret, nm, tab, d) pc (gi_k (.int v) 3) := by
  rintro ⟨G, p, e, s, m, args, below, meth, c, d', MC, MS⟩ Q ⟨hz, hd', hx, hb, hml, hr, hlk, hown, hnm, htab, hW, hzs, hzk⟩ K hKK lv st h kc ks k
  intro H locs cells slots ls hl hR hS hc hs
  dsimp only at hb hml hr hlk hown hnm htab hd'
  exact lv_sipush hx hb hd hv (hKK _ _ _ _ _ _ (k) H locs cells slots ls hl hR hS hc hs)
theorem gs_lconst {n : Fin 2} {v : Int64} (hd : decode cc pc = .ok (.lconst n, 1)) (hv : Int64.ofNat (n : Nat) = v) : gSnd (own, cc, nL, ret, nm, tab, d) pc (gi_k (.long v) 1) := by
  rintro ⟨G, p, e, s, m, args, below, meth, c, d', MC, MS⟩ Q ⟨hz, hd', hx, hb, hml, hr, hlk, hown, hnm, htab, hW, hzs, hzk⟩ K hKK lv st h kc ks k
  intro H locs cells slots ls hl hR hS hc hs
  dsimp only at hb hml hr hlk hown hnm htab hd'
  exact lv_lconst hx hb hd hv (hKK _ _ _ _ _ _ (k) H locs cells slots ls hl hR hS hc hs)
theorem gs_fconst0 (hd : decode cc pc = .ok (.fconst 0, 1)) : gSnd (own, cc, nL, ret, nm, tab, d) pc (gi_k (.float FP.fconst0) 1) := by
  rintro ⟨G, p, e, s, m, args, below, meth, c, d', MC, MS⟩ Q ⟨hz, hd', hx, hb, hml, hr, hlk, hown, hnm, htab, hW, hzs, hzk⟩ K hKK lv st h kc ks k
  intro H locs cells slots ls hl hR hS hc hs
  dsimp only at hb hml hr hlk hown hnm htab hd'
  exact lv_fconst0 hx hb hd (hKK _ _ _ _ _ _ (k) H locs cells slots ls hl hR hS hc hs)
theorem gs_fconst1 (hd : decode cc pc = .ok (.fconst 1, 1)) : gSnd (own, cc, nL, ret, nm, tab, d) pc (gi_k (.float FP.fconst1) 1) := by
  rintro ⟨G, p, e, s, m, args, below, meth, c, d', MC, MS⟩ Q ⟨hz, hd', hx, hb, hml, hr, hlk, hown, hnm, htab, hW, hzs, hzk⟩ K hKK lv st h kc ks k
  intro H locs cells slots ls hl hR hS hc hs
  dsimp only at hb hml hr hlk hown hnm htab hd'
  exact lv_fconst1 hx hb hd (hKK _ _ _ _ _ _ (k) H locs cells slots ls hl hR hS hc hs)
theorem gs_fconst2 (hd : decode cc pc = .ok (.fconst 2, 1)) : gSnd (own, cc, nL, ret, nm, tab, d) pc (gi_k (.float FP.fconst2) 1) := by
  rintro ⟨G, p, e, s, m, args, below, meth, c, d', MC, MS⟩ Q ⟨hz, hd', hx, hb, hml, hr, hlk, hown, hnm, htab, hW, hzs, hzk⟩ K hKK lv st h kc ks k
  intro H locs cells slots ls hl hR hS hc hs
  dsimp only at hb hml hr hlk hown hnm htab hd'
  exact lv_fconst2 hx hb hd (hKK _ _ _ _ _ _ (k) H locs cells slots ls hl hR hS hc hs)
theorem gs_dconst0 (hd : decode cc pc = .ok (.dconst 0, 1)) : gSnd (own, cc, nL, ret, nm, tab, d) pc (gi_k (.double FP.dconst0) 1) := by
  rintro ⟨G, p, e, s, m, args, below, meth, c, d', MC, MS⟩ Q ⟨hz, hd', hx, hb, hml, hr, hlk, hown, hnm, htab, hW, hzs, hzk⟩ K hKK lv st h kc ks k
  intro H locs cells slots ls hl hR hS hc hs
  dsimp only at hb hml hr hlk hown hnm htab hd'
  exact lv_dconst0 hx hb hd (hKK _ _ _ _ _ _ (k) H locs cells slots ls hl hR hS hc hs)
theorem gs_dconst1 (hd : decode cc pc = .ok (.dconst 1, 1)) : gSnd (own, cc, nL, ret, nm, tab, d) pc (gi_k (.double FP.dconst1) 1) := by
  rintro ⟨G, p, e, s, m, args, below, meth, c, d', MC, MS⟩ Q ⟨hz, hd', hx, hb, hml, hr, hlk, hown, hnm, htab, hW, hzs, hzk⟩ K hKK lv st h kc ks k
  intro H locs cells slots ls hl hR hS hc hs
  dsimp only at hb hml hr hlk hown hnm htab hd'
  exact lv_dconst1 hx hb hd (hKK _ _ _ _ _ _ (k) H locs cells slots ls hl hR hS hc hs)
theorem gs_null (hd : decode cc pc = .ok (.aconst_null, 1)) : gSnd (own, cc, nL, ret, nm, tab, d) pc (gi_k .null 1) := by
  rintro ⟨G, p, e, s, m, args, below, meth, c, d', MC, MS⟩ Q ⟨hz, hd', hx, hb, hml, hr, hlk, hown, hnm, htab, hW, hzs, hzk⟩ K hKK lv st h kc ks k
  intro H locs cells slots ls hl hR hS hc hs
  dsimp only at hb hml hr hlk hown hnm htab hd'
  exact lv_null hx hb hd (hKK _ _ _ _ _ _ (k) H locs cells slots ls hl hR hS hc hs)
theorem gs_ldc {index : Nat} {v : Int32} (hd : decode cc pc = .ok (.ldc index, 2)) (hw : Cond.constant own index v ∈ lw_tbl) : gSnd (own, cc, nL, ret, nm, tab, d) pc (gi_k (.int v) 2) := by
  rintro ⟨G, p, e, s, m, args, below, meth, c, d', MC, MS⟩ Q ⟨hz, hd', hx, hb, hml, hr, hlk, hown, hnm, htab, hW, hzs, hzk⟩ K hKK lv st h kc ks k
  intro H locs cells slots ls hl hR hS hc hs
  dsimp only at hb hml hr hlk hown hnm htab hd'
  exact lv_ldc hx hb hown (gword hz hW hw rfl) hd (hKK _ _ _ _ _ _ (k) H locs cells slots ls hl hR hS hc hs)
theorem gs_ldcf {index : Nat} {v : UInt32} (hd : decode cc pc = .ok (.ldc index, 2)) (hw : Cond.constantFloat own index v ∈ lw_tbl) : gSnd (own, cc, nL, ret, nm, tab, d) pc (gi_k (.float v) 2) := by
  rintro ⟨G, p, e, s, m, args, below, meth, c, d', MC, MS⟩ Q ⟨hz, hd', hx, hb, hml, hr, hlk, hown, hnm, htab, hW, hzs, hzk⟩ K hKK lv st h kc ks k
  intro H locs cells slots ls hl hR hS hc hs
  dsimp only at hb hml hr hlk hown hnm htab hd'
  exact lv_ldcf hx hb hown (gword hz hW hw rfl) hd (hKK _ _ _ _ _ _ (k) H locs cells slots ls hl hR hS hc hs)
theorem gs_ldc2 {index : Nat} {v : Int64} (hd : decode cc pc = .ok (.ldc2_w index, 3)) (hw : Cond.constantLong own index v ∈ lw_tbl) : gSnd (own, cc, nL, ret, nm, tab, d) pc (gi_k (.long v) 3) := by
  rintro ⟨G, p, e, s, m, args, below, meth, c, d', MC, MS⟩ Q ⟨hz, hd', hx, hb, hml, hr, hlk, hown, hnm, htab, hW, hzs, hzk⟩ K hKK lv st h kc ks k
  intro H locs cells slots ls hl hR hS hc hs
  dsimp only at hb hml hr hlk hown hnm htab hd'
  exact lv_ldc2 hx hb hown (gword hz hW hw rfl) hd (hKK _ _ _ _ _ _ (k) H locs cells slots ls hl hR hS hc hs)
theorem gs_ldc2d {index : Nat} {v : UInt64} (hd : decode cc pc = .ok (.ldc2_w index, 3)) (hw : Cond.constantDouble own index v ∈ lw_tbl) : gSnd (own, cc, nL, ret, nm, tab, d) pc (gi_k (.double v) 3) := by
  rintro ⟨G, p, e, s, m, args, below, meth, c, d', MC, MS⟩ Q ⟨hz, hd', hx, hb, hml, hr, hlk, hown, hnm, htab, hW, hzs, hzk⟩ K hKK lv st h kc ks k
  intro H locs cells slots ls hl hR hS hc hs
  dsimp only at hb hml hr hlk hown hnm htab hd'
  exact lv_ldc2d hx hb hown (gword hz hW hw rfl) hd (hKK _ _ _ _ _ _ (k) H locs cells slots ls hl hR hS hc hs)
def gi_ild (i len : Nat) : gOp := fun K Q pc lv st h kc ks => match lv[i]? with
  | some (some (.int x)) => K (pc + len) lv (.int x :: st) h kc ks
  | _ => False
theorem gs_iload_n {k0 : Fin 4} {i : Nat} (hd : decode cc pc = .ok (.iload_n k0, 1)) (hi0 : (k0 : Nat) = i) : gSnd (own, cc, nL, ret, nm, tab, d) pc (gi_ild i 1) := by
  rintro ⟨G, p, e, s, m, args, below, meth, c, d', MC, MS⟩ Q ⟨hz, hd', hx, hb, hml, hr, hlk, hown, hnm, htab, hW, hzs, hzk⟩ K hKK lv st h kc ks k
  intro H locs cells slots ls hl hR hS hc hs
  dsimp only at hb hml hr hlk hown hnm htab hd'
  unfold gi_ild at k
  split at k
  · rename_i x hi
    exact lv_iload_n hx hb hd hi0 (hl.2.2 i _ hi) (hKK _ _ _ _ _ _ (k) H locs cells slots ls hl hR hS hc hs)
  · exact k.elim
theorem gs_iload {i : Nat} (hd : decode cc pc = .ok (.iload i, 2)) : gSnd (own, cc, nL, ret, nm, tab, d) pc (gi_ild i 2) := by
  rintro ⟨G, p, e, s, m, args, below, meth, c, d', MC, MS⟩ Q ⟨hz, hd', hx, hb, hml, hr, hlk, hown, hnm, htab, hW, hzs, hzk⟩ K hKK lv st h kc ks k
  intro H locs cells slots ls hl hR hS hc hs
  dsimp only at hb hml hr hlk hown hnm htab hd'
  unfold gi_ild at k
  split at k
  · rename_i x hi
    exact lv_iload hx hb hd (hl.2.2 i _ hi) (hKK _ _ _ _ _ _ (k) H locs cells slots ls hl hR hS hc hs)
  · exact k.elim
def gi_lld (i len : Nat) : gOp := fun K Q pc lv st h kc ks => match lv[i]? with
  | some (some (.long x)) => K (pc + len) lv (.long x :: st) h kc ks
  | _ => False
theorem gs_lload_n {k0 : Fin 4} {i : Nat} (hd : decode cc pc = .ok (.lload_n k0, 1)) (hi0 : (k0 : Nat) = i) : gSnd (own, cc, nL, ret, nm, tab, d) pc (gi_lld i 1) := by
  rintro ⟨G, p, e, s, m, args, below, meth, c, d', MC, MS⟩ Q ⟨hz, hd', hx, hb, hml, hr, hlk, hown, hnm, htab, hW, hzs, hzk⟩ K hKK lv st h kc ks k
  intro H locs cells slots ls hl hR hS hc hs
  dsimp only at hb hml hr hlk hown hnm htab hd'
  unfold gi_lld at k
  split at k
  · rename_i x hi
    exact lv_lload_n hx hb hd hi0 (hl.2.2 i _ hi) (hKK _ _ _ _ _ _ (k) H locs cells slots ls hl hR hS hc hs)
  · exact k.elim
theorem gs_lload {i : Nat} (hd : decode cc pc = .ok (.lload i, 2)) : gSnd (own, cc, nL, ret, nm, tab, d) pc (gi_lld i 2) := by
  rintro ⟨G, p, e, s, m, args, below, meth, c, d', MC, MS⟩ Q ⟨hz, hd', hx, hb, hml, hr, hlk, hown, hnm, htab, hW, hzs, hzk⟩ K hKK lv st h kc ks k
  intro H locs cells slots ls hl hR hS hc hs
  dsimp only at hb hml hr hlk hown hnm htab hd'
  unfold gi_lld at k
  split at k
  · rename_i x hi
    exact lv_lload hx hb hd (hl.2.2 i _ hi) (hKK _ _ _ _ _ _ (k) H locs cells slots ls hl hR hS hc hs)
  · exact k.elim
def gi_fld (i len : Nat) : gOp := fun K Q pc lv st h kc ks => match lv[i]? with
  | some (some (.float x)) => K (pc + len) lv (.float x :: st) h kc ks
  | _ => False
theorem gs_fload_n {k0 : Fin 4} {i : Nat} (hd : decode cc pc = .ok (.fload_n k0, 1)) (hi0 : (k0 : Nat) = i) : gSnd (own, cc, nL, ret, nm, tab, d) pc (gi_fld i 1) := by
  rintro ⟨G, p, e, s, m, args, below, meth, c, d', MC, MS⟩ Q ⟨hz, hd', hx, hb, hml, hr, hlk, hown, hnm, htab, hW, hzs, hzk⟩ K hKK lv st h kc ks k
  intro H locs cells slots ls hl hR hS hc hs
  dsimp only at hb hml hr hlk hown hnm htab hd'
  unfold gi_fld at k
  split at k
  · rename_i x hi
    exact lv_fload_n hx hb hd hi0 (hl.2.2 i _ hi) (hKK _ _ _ _ _ _ (k) H locs cells slots ls hl hR hS hc hs)
  · exact k.elim
theorem gs_fload {i : Nat} (hd : decode cc pc = .ok (.fload i, 2)) : gSnd (own, cc, nL, ret, nm, tab, d) pc (gi_fld i 2) := by
  rintro ⟨G, p, e, s, m, args, below, meth, c, d', MC, MS⟩ Q ⟨hz, hd', hx, hb, hml, hr, hlk, hown, hnm, htab, hW, hzs, hzk⟩ K hKK lv st h kc ks k
  intro H locs cells slots ls hl hR hS hc hs
  dsimp only at hb hml hr hlk hown hnm htab hd'
  unfold gi_fld at k
  split at k
  · rename_i x hi
    exact lv_fload hx hb hd (hl.2.2 i _ hi) (hKK _ _ _ _ _ _ (k) H locs cells slots ls hl hR hS hc hs)
  · exact k.elim
def gi_dld (i len : Nat) : gOp := fun K Q pc lv st h kc ks => match lv[i]? with
  | some (some (.double x)) => K (pc + len) lv (.double x :: st) h kc ks
  | _ => False
theorem gs_dload_n {k0 : Fin 4} {i : Nat} (hd : decode cc pc = .ok (.dload_n k0, 1)) (hi0 : (k0 : Nat) = i) : gSnd (own, cc, nL, ret, nm, tab, d) pc (gi_dld i 1) := by
  rintro ⟨G, p, e, s, m, args, below, meth, c, d', MC, MS⟩ Q ⟨hz, hd', hx, hb, hml, hr, hlk, hown, hnm, htab, hW, hzs, hzk⟩ K hKK lv st h kc ks k
  intro H locs cells slots ls hl hR hS hc hs
  dsimp only at hb hml hr hlk hown hnm htab hd'
  unfold gi_dld at k
  split at k
  · rename_i x hi
    exact lv_dload_n hx hb hd hi0 (hl.2.2 i _ hi) (hKK _ _ _ _ _ _ (k) H locs cells slots ls hl hR hS hc hs)
  · exact k.elim
theorem gs_dload {i : Nat} (hd : decode cc pc = .ok (.dload i, 2)) : gSnd (own, cc, nL, ret, nm, tab, d) pc (gi_dld i 2) := by
  rintro ⟨G, p, e, s, m, args, below, meth, c, d', MC, MS⟩ Q ⟨hz, hd', hx, hb, hml, hr, hlk, hown, hnm, htab, hW, hzs, hzk⟩ K hKK lv st h kc ks k
  intro H locs cells slots ls hl hR hS hc hs
  dsimp only at hb hml hr hlk hown hnm htab hd'
  unfold gi_dld at k
  split at k
  · rename_i x hi
    exact lv_dload hx hb hd (hl.2.2 i _ hi) (hKK _ _ _ _ _ _ (k) H locs cells slots ls hl hR hS hc hs)
  · exact k.elim
def gi_ald (i len : Nat) : gOp := fun K Q pc lv st h kc ks => match lv[i]? with
  | some (some (.ref x)) => K (pc + len) lv (.ref x :: st) h kc ks
  | some (some .null) => K (pc + len) lv (.null :: st) h kc ks
  | _ => False
theorem gs_aload_n {k0 : Fin 4} {i : Nat} (hd : decode cc pc = .ok (.aload_n k0, 1)) (hi0 : (k0 : Nat) = i) : gSnd (own, cc, nL, ret, nm, tab, d) pc (gi_ald i 1) := by
  rintro ⟨G, p, e, s, m, args, below, meth, c, d', MC, MS⟩ Q ⟨hz, hd', hx, hb, hml, hr, hlk, hown, hnm, htab, hW, hzs, hzk⟩ K hKK lv st h kc ks k
  intro H locs cells slots ls hl hR hS hc hs
  dsimp only at hb hml hr hlk hown hnm htab hd'
  unfold gi_ald at k
  split at k
  · rename_i x hi
    exact lv_aload_n hx hb hd hi0 (hl.2.2 i _ hi) (hKK _ _ _ _ _ _ (k) H locs cells slots ls hl hR hS hc hs)
  · rename_i hi
    exact lv_aload_nN hx hb hd hi0 (hl.2.2 i _ hi) (hKK _ _ _ _ _ _ (k) H locs cells slots ls hl hR hS hc hs)
  · exact k.elim
theorem gs_aload {i : Nat} (hd : decode cc pc = .ok (.aload i, 2)) : gSnd (own, cc, nL, ret, nm, tab, d) pc (gi_ald i 2) := by
  rintro ⟨G, p, e, s, m, args, below, meth, c, d', MC, MS⟩ Q ⟨hz, hd', hx, hb, hml, hr, hlk, hown, hnm, htab, hW, hzs, hzk⟩ K hKK lv st h kc ks k
  intro H locs cells slots ls hl hR hS hc hs
  dsimp only at hb hml hr hlk hown hnm htab hd'
  unfold gi_ald at k
  split at k
  · rename_i x hi
    exact lv_aload hx hb hd (hl.2.2 i _ hi) (hKK _ _ _ _ _ _ (k) H locs cells slots ls hl hR hS hc hs)
  · rename_i hi
    exact lv_aloadN hx hb hd (hl.2.2 i _ hi) (hKK _ _ _ _ _ _ (k) H locs cells slots ls hl hR hS hc hs)
  · exact k.elim
def gi_ist (i len : Nat) : gOp := fun K Q pc lv st h kc ks => match st with
  | .int x :: r => K (pc + len) (gst1 lv i (.int x)) r h kc ks
  | _ => False
theorem gs_istore_n {k0 : Fin 4} {i : Nat} (hd : decode cc pc = .ok (.istore_n k0, 1)) (hi0 : (k0 : Nat) = i) (hn : i < nL) : gSnd (own, cc, nL, ret, nm, tab, d) pc (gi_ist i 1) := by
  rintro ⟨G, p, e, s, m, args, below, meth, c, d', MC, MS⟩ Q ⟨hz, hd', hx, hb, hml, hr, hlk, hown, hnm, htab, hW, hzs, hzk⟩ K hKK lv st h kc ks k
  intro H locs cells slots ls hl hR hS hc hs
  dsimp only at hb hml hr hlk hown hnm htab hd'
  unfold gi_ist at k
  split at k
  · exact lv_istore_n hx hb hd hi0 hl.has hn rfl (fun ls1 hl1 => (hKK _ _ _ _ _ _ (k) H locs cells slots ls1 (gst1_lv hl1) hR hS hc hs))
  · exact k.elim
theorem gs_istore {i : Nat} (hd : decode cc pc = .ok (.istore i, 2)) (hn : i < nL) : gSnd (own, cc, nL, ret, nm, tab, d) pc (gi_ist i 2) := by
  rintro ⟨G, p, e, s, m, args, below, meth, c, d', MC, MS⟩ Q ⟨hz, hd', hx, hb, hml, hr, hlk, hown, hnm, htab, hW, hzs, hzk⟩ K hKK lv st h kc ks k
  intro H locs cells slots ls hl hR hS hc hs
  dsimp only at hb hml hr hlk hown hnm htab hd'
  unfold gi_ist at k
  split at k
  · exact lv_istore hx hb hd hl.has hn rfl (fun ls1 hl1 => (hKK _ _ _ _ _ _ (k) H locs cells slots ls1 (gst1_lv hl1) hR hS hc hs))
  · exact k.elim
def gi_fst (i len : Nat) : gOp := fun K Q pc lv st h kc ks => match st with
  | .float x :: r => K (pc + len) (gst1 lv i (.float x)) r h kc ks
  | _ => False
theorem gs_fstore_n {k0 : Fin 4} {i : Nat} (hd : decode cc pc = .ok (.fstore_n k0, 1)) (hi0 : (k0 : Nat) = i) (hn : i < nL) : gSnd (own, cc, nL, ret, nm, tab, d) pc (gi_fst i 1) := by
  rintro ⟨G, p, e, s, m, args, below, meth, c, d', MC, MS⟩ Q ⟨hz, hd', hx, hb, hml, hr, hlk, hown, hnm, htab, hW, hzs, hzk⟩ K hKK lv st h kc ks k
  intro H locs cells slots ls hl hR hS hc hs
  dsimp only at hb hml hr hlk hown hnm htab hd'
  unfold gi_fst at k
  split at k
  · exact lv_fstore_n hx hb hd hi0 hl.has hn rfl (fun ls1 hl1 => (hKK _ _ _ _ _ _ (k) H locs cells slots ls1 (gst1_lv hl1) hR hS hc hs))
  · exact k.elim
theorem gs_fstore {i : Nat} (hd : decode cc pc = .ok (.fstore i, 2)) (hn : i < nL) : gSnd (own, cc, nL, ret, nm, tab, d) pc (gi_fst i 2) := by
  rintro ⟨G, p, e, s, m, args, below, meth, c, d', MC, MS⟩ Q ⟨hz, hd', hx, hb, hml, hr, hlk, hown, hnm, htab, hW, hzs, hzk⟩ K hKK lv st h kc ks k
  intro H locs cells slots ls hl hR hS hc hs
  dsimp only at hb hml hr hlk hown hnm htab hd'
  unfold gi_fst at k
  split at k
  · exact lv_fstore hx hb hd hl.has hn rfl (fun ls1 hl1 => (hKK _ _ _ _ _ _ (k) H locs cells slots ls1 (gst1_lv hl1) hR hS hc hs))
  · exact k.elim
def gi_lst (i len : Nat) : gOp := fun K Q pc lv st h kc ks => match st with
  | .long x :: r => K (pc + len) (gst2 lv i (.long x)) r h kc ks
  | _ => False
theorem gs_lstore_n {k0 : Fin 4} {i : Nat} (hd : decode cc pc = .ok (.lstore_n k0, 1)) (hi0 : (k0 : Nat) = i) (hn : i + 1 < nL) : gSnd (own, cc, nL, ret, nm, tab, d) pc (gi_lst i 1) := by
  rintro ⟨G, p, e, s, m, args, below, meth, c, d', MC, MS⟩ Q ⟨hz, hd', hx, hb, hml, hr, hlk, hown, hnm, htab, hW, hzs, hzk⟩ K hKK lv st h kc ks k
  intro H locs cells slots ls hl hR hS hc hs
  dsimp only at hb hml hr hlk hown hnm htab hd'
  unfold gi_lst at k
  split at k
  · exact lv_lstore_n hx hb hd hi0 hl.has hn rfl (fun ls1 hl1 => (hKK _ _ _ _ _ _ (k) H locs cells slots ls1 (gst2_lv hl1) hR hS hc hs))
  · exact k.elim
theorem gs_lstore {i : Nat} (hd : decode cc pc = .ok (.lstore i, 2)) (hn : i + 1 < nL) : gSnd (own, cc, nL, ret, nm, tab, d) pc (gi_lst i 2) := by
  rintro ⟨G, p, e, s, m, args, below, meth, c, d', MC, MS⟩ Q ⟨hz, hd', hx, hb, hml, hr, hlk, hown, hnm, htab, hW, hzs, hzk⟩ K hKK lv st h kc ks k
  intro H locs cells slots ls hl hR hS hc hs
  dsimp only at hb hml hr hlk hown hnm htab hd'
  unfold gi_lst at k
  split at k
  · exact lv_lstore hx hb hd hl.has hn rfl (fun ls1 hl1 => (hKK _ _ _ _ _ _ (k) H locs cells slots ls1 (gst2_lv hl1) hR hS hc hs))
  · exact k.elim
def gi_dst (i len : Nat) : gOp := fun K Q pc lv st h kc ks => match st with
  | .double x :: r => K (pc + len) (gst2 lv i (.double x)) r h kc ks
  | _ => False
theorem gs_dstore_n {k0 : Fin 4} {i : Nat} (hd : decode cc pc = .ok (.dstore_n k0, 1)) (hi0 : (k0 : Nat) = i) (hn : i + 1 < nL) : gSnd (own, cc, nL, ret, nm, tab, d) pc (gi_dst i 1) := by
  rintro ⟨G, p, e, s, m, args, below, meth, c, d', MC, MS⟩ Q ⟨hz, hd', hx, hb, hml, hr, hlk, hown, hnm, htab, hW, hzs, hzk⟩ K hKK lv st h kc ks k
  intro H locs cells slots ls hl hR hS hc hs
  dsimp only at hb hml hr hlk hown hnm htab hd'
  unfold gi_dst at k
  split at k
  · exact lv_dstore_n hx hb hd hi0 hl.has hn rfl (fun ls1 hl1 => (hKK _ _ _ _ _ _ (k) H locs cells slots ls1 (gst2_lv hl1) hR hS hc hs))
  · exact k.elim
theorem gs_dstore {i : Nat} (hd : decode cc pc = .ok (.dstore i, 2)) (hn : i + 1 < nL) : gSnd (own, cc, nL, ret, nm, tab, d) pc (gi_dst i 2) := by
  rintro ⟨G, p, e, s, m, args, below, meth, c, d', MC, MS⟩ Q ⟨hz, hd', hx, hb, hml, hr, hlk, hown, hnm, htab, hW, hzs, hzk⟩ K hKK lv st h kc ks k
  intro H locs cells slots ls hl hR hS hc hs
  dsimp only at hb hml hr hlk hown hnm htab hd'
  unfold gi_dst at k
  split at k
  · exact lv_dstore hx hb hd hl.has hn rfl (fun ls1 hl1 => (hKK _ _ _ _ _ _ (k) H locs cells slots ls1 (gst2_lv hl1) hR hS hc hs))
  · exact k.elim
def gi_ast (i len : Nat) : gOp := fun K Q pc lv st h kc ks => match st with
  | .ref x :: r => K (pc + len) (gst1 lv i (.ref x)) r h kc ks
  | .null :: r => K (pc + len) (gst1 lv i .null) r h kc ks
  | _ => False
theorem gs_astore_n {k0 : Fin 4} {i : Nat} (hd : decode cc pc = .ok (.astore_n k0, 1)) (hi0 : (k0 : Nat) = i) (hn : i < nL) : gSnd (own, cc, nL, ret, nm, tab, d) pc (gi_ast i 1) := by
  rintro ⟨G, p, e, s, m, args, below, meth, c, d', MC, MS⟩ Q ⟨hz, hd', hx, hb, hml, hr, hlk, hown, hnm, htab, hW, hzs, hzk⟩ K hKK lv st h kc ks k
  intro H locs cells slots ls hl hR hS hc hs
  dsimp only at hb hml hr hlk hown hnm htab hd'
  unfold gi_ast at k
  split at k
  · exact lv_astore_n hx hb hd hi0 hl.has hn rfl (fun ls1 hl1 => (hKK _ _ _ _ _ _ (k) H locs cells slots ls1 (gst1_lv hl1) hR hS hc hs))
  · exact lv_astore_nN hx hb hd hi0 hl.has hn rfl (fun ls1 hl1 => (hKK _ _ _ _ _ _ (k) H locs cells slots ls1 (gst1_lv hl1) hR hS hc hs))
  · exact k.elim
theorem gs_astore {i : Nat} (hd : decode cc pc = .ok (.astore i, 2)) (hn : i < nL) : gSnd (own, cc, nL, ret, nm, tab, d) pc (gi_ast i 2) := by
  rintro ⟨G, p, e, s, m, args, below, meth, c, d', MC, MS⟩ Q ⟨hz, hd', hx, hb, hml, hr, hlk, hown, hnm, htab, hW, hzs, hzk⟩ K hKK lv st h kc ks k
  intro H locs cells slots ls hl hR hS hc hs
  dsimp only at hb hml hr hlk hown hnm htab hd'
  unfold gi_ast at k
  split at k
  · exact lv_astore hx hb hd hl.has hn rfl (fun ls1 hl1 => (hKK _ _ _ _ _ _ (k) H locs cells slots ls1 (gst1_lv hl1) hR hS hc hs))
  · exact lv_astoreN hx hb hd hl.has hn rfl (fun ls1 hl1 => (hKK _ _ _ _ _ _ (k) H locs cells slots ls1 (gst1_lv hl1) hR hS hc hs))
  · exact k.elim
def gi_iinc (i : Nat) (v : Int32) : gOp := fun K Q pc lv st h kc ks => match lv[i]? with
  | some (some (.int x)) => K (pc + 3) (gst1 lv i (.int (x + v))) st h kc ks
  | _ => False
theorem gs_iinc {i : Nat} {n : Int} {v : Int32} (hd : decode cc pc = .ok (.iinc i n, 3)) (hv : Int32.ofInt n = v) (hn : i < nL) : gSnd (own, cc, nL, ret, nm, tab, d) pc (gi_iinc i v) := by
  rintro ⟨G, p, e, s, m, args, below, meth, c, d', MC, MS⟩ Q ⟨hz, hd', hx, hb, hml, hr, hlk, hown, hnm, htab, hW, hzs, hzk⟩ K hKK lv st h kc ks k
  intro H locs cells slots ls hl hR hS hc hs
  dsimp only at hb hml hr hlk hown hnm htab hd'
  unfold gi_iinc at k
  split at k
  · rename_i x hi
    obtain ⟨j, hj⟩ := List.getElem?_of_mem (gAs_mem (q := (i, Value.int x)).mpr hi)
    subst hv
    exact lv_iinc hx hb hd hl.has hj rfl hn rfl (fun ls1 hl1 => (hKK _ _ _ _ _ _ (k) H locs cells slots ls1 (gst1_lv hl1) hR hS hc hs))
  · exact k.elim
def gi_iadd  : gOp := fun K Q pc lv st h kc ks => match st with
  | .int y :: .int x :: r => K (pc + 1) lv (.int (x + y) :: r) h kc ks
  | _ => False
theorem gs_iadd (hd : decode cc pc = .ok (.iadd, 1)) : gSnd (own, cc, nL, ret, nm, tab, d) pc (gi_iadd) := by
  rintro ⟨G, p, e, s, m, args, below, meth, c, d', MC, MS⟩ Q ⟨hz, hd', hx, hb, hml, hr, hlk, hown, hnm, htab, hW, hzs, hzk⟩ K hKK lv st h kc ks k
  intro H locs cells slots ls hl hR hS hc hs
  dsimp only at hb hml hr hlk hown hnm htab hd'
  unfold gi_iadd at k
  split at k
  · exact lv_iadd hx hb hd (hKK _ _ _ _ _ _ (k) H locs cells slots ls hl hR hS hc hs)
  · exact k.elim
def gi_isub  : gOp := fun K Q pc lv st h kc ks => match st with
  | .int y :: .int x :: r => K (pc + 1) lv (.int (x - y) :: r) h kc ks
  | _ => False
theorem gs_isub (hd : decode cc pc = .ok (.isub, 1)) : gSnd (own, cc, nL, ret, nm, tab, d) pc (gi_isub) := by
  rintro ⟨G, p, e, s, m, args, below, meth, c, d', MC, MS⟩ Q ⟨hz, hd', hx, hb, hml, hr, hlk, hown, hnm, htab, hW, hzs, hzk⟩ K hKK lv st h kc ks k
  intro H locs cells slots ls hl hR hS hc hs
  dsimp only at hb hml hr hlk hown hnm htab hd'
  unfold gi_isub at k
  split at k
  · exact lv_isub hx hb hd (hKK _ _ _ _ _ _ (k) H locs cells slots ls hl hR hS hc hs)
  · exact k.elim
def gi_imul  : gOp := fun K Q pc lv st h kc ks => match st with
  | .int y :: .int x :: r => K (pc + 1) lv (.int (x * y) :: r) h kc ks
  | _ => False
theorem gs_imul (hd : decode cc pc = .ok (.imul, 1)) : gSnd (own, cc, nL, ret, nm, tab, d) pc (gi_imul) := by
  rintro ⟨G, p, e, s, m, args, below, meth, c, d', MC, MS⟩ Q ⟨hz, hd', hx, hb, hml, hr, hlk, hown, hnm, htab, hW, hzs, hzk⟩ K hKK lv st h kc ks k
  intro H locs cells slots ls hl hR hS hc hs
  dsimp only at hb hml hr hlk hown hnm htab hd'
  unfold gi_imul at k
  split at k
  · exact lv_imul hx hb hd (hKK _ _ _ _ _ _ (k) H locs cells slots ls hl hR hS hc hs)
  · exact k.elim
def gi_iand  : gOp := fun K Q pc lv st h kc ks => match st with
  | .int y :: .int x :: r => K (pc + 1) lv (.int (x &&& y) :: r) h kc ks
  | _ => False
theorem gs_iand (hd : decode cc pc = .ok (.iand, 1)) : gSnd (own, cc, nL, ret, nm, tab, d) pc (gi_iand) := by
  rintro ⟨G, p, e, s, m, args, below, meth, c, d', MC, MS⟩ Q ⟨hz, hd', hx, hb, hml, hr, hlk, hown, hnm, htab, hW, hzs, hzk⟩ K hKK lv st h kc ks k
  intro H locs cells slots ls hl hR hS hc hs
  dsimp only at hb hml hr hlk hown hnm htab hd'
  unfold gi_iand at k
  split at k
  · exact lv_iand hx hb hd (hKK _ _ _ _ _ _ (k) H locs cells slots ls hl hR hS hc hs)
  · exact k.elim
def gi_ior  : gOp := fun K Q pc lv st h kc ks => match st with
  | .int y :: .int x :: r => K (pc + 1) lv (.int (x ||| y) :: r) h kc ks
  | _ => False
theorem gs_ior (hd : decode cc pc = .ok (.ior, 1)) : gSnd (own, cc, nL, ret, nm, tab, d) pc (gi_ior) := by
  rintro ⟨G, p, e, s, m, args, below, meth, c, d', MC, MS⟩ Q ⟨hz, hd', hx, hb, hml, hr, hlk, hown, hnm, htab, hW, hzs, hzk⟩ K hKK lv st h kc ks k
  intro H locs cells slots ls hl hR hS hc hs
  dsimp only at hb hml hr hlk hown hnm htab hd'
  unfold gi_ior at k
  split at k
  · exact lv_ior hx hb hd (hKK _ _ _ _ _ _ (k) H locs cells slots ls hl hR hS hc hs)
  · exact k.elim
def gi_ixor  : gOp := fun K Q pc lv st h kc ks => match st with
  | .int y :: .int x :: r => K (pc + 1) lv (.int (x ^^^ y) :: r) h kc ks
  | _ => False
theorem gs_ixor (hd : decode cc pc = .ok (.ixor, 1)) : gSnd (own, cc, nL, ret, nm, tab, d) pc (gi_ixor) := by
  rintro ⟨G, p, e, s, m, args, below, meth, c, d', MC, MS⟩ Q ⟨hz, hd', hx, hb, hml, hr, hlk, hown, hnm, htab, hW, hzs, hzk⟩ K hKK lv st h kc ks k
  intro H locs cells slots ls hl hR hS hc hs
  dsimp only at hb hml hr hlk hown hnm htab hd'
  unfold gi_ixor at k
  split at k
  · exact lv_ixor hx hb hd (hKK _ _ _ _ _ _ (k) H locs cells slots ls hl hR hS hc hs)
  · exact k.elim
def gi_ishl  : gOp := fun K Q pc lv st h kc ks => match st with
  | .int y :: .int x :: r => K (pc + 1) lv (.int (x <<< (y &&& 31)) :: r) h kc ks
  | _ => False
theorem gs_ishl (hd : decode cc pc = .ok (.ishl, 1)) : gSnd (own, cc, nL, ret, nm, tab, d) pc (gi_ishl) := by
  rintro ⟨G, p, e, s, m, args, below, meth, c, d', MC, MS⟩ Q ⟨hz, hd', hx, hb, hml, hr, hlk, hown, hnm, htab, hW, hzs, hzk⟩ K hKK lv st h kc ks k
  intro H locs cells slots ls hl hR hS hc hs
  dsimp only at hb hml hr hlk hown hnm htab hd'
  unfold gi_ishl at k
  split at k
  · exact lv_ishl hx hb hd (hKK _ _ _ _ _ _ (k) H locs cells slots ls hl hR hS hc hs)
  · exact k.elim
def gi_ishr  : gOp := fun K Q pc lv st h kc ks => match st with
  | .int y :: .int x :: r => K (pc + 1) lv (.int (x >>> (y &&& 31)) :: r) h kc ks
  | _ => False
theorem gs_ishr (hd : decode cc pc = .ok (.ishr, 1)) : gSnd (own, cc, nL, ret, nm, tab, d) pc (gi_ishr) := by
  rintro ⟨G, p, e, s, m, args, below, meth, c, d', MC, MS⟩ Q ⟨hz, hd', hx, hb, hml, hr, hlk, hown, hnm, htab, hW, hzs, hzk⟩ K hKK lv st h kc ks k
  intro H locs cells slots ls hl hR hS hc hs
  dsimp only at hb hml hr hlk hown hnm htab hd'
  unfold gi_ishr at k
  split at k
  · exact lv_ishr hx hb hd (hKK _ _ _ _ _ _ (k) H locs cells slots ls hl hR hS hc hs)
  · exact k.elim
def gi_ladd  : gOp := fun K Q pc lv st h kc ks => match st with
  | .long y :: .long x :: r => K (pc + 1) lv (.long (x + y) :: r) h kc ks
  | _ => False
theorem gs_ladd (hd : decode cc pc = .ok (.ladd, 1)) : gSnd (own, cc, nL, ret, nm, tab, d) pc (gi_ladd) := by
  rintro ⟨G, p, e, s, m, args, below, meth, c, d', MC, MS⟩ Q ⟨hz, hd', hx, hb, hml, hr, hlk, hown, hnm, htab, hW, hzs, hzk⟩ K hKK lv st h kc ks k
  intro H locs cells slots ls hl hR hS hc hs
  dsimp only at hb hml hr hlk hown hnm htab hd'
  unfold gi_ladd at k
  split at k
  · exact lv_ladd hx hb hd (hKK _ _ _ _ _ _ (k) H locs cells slots ls hl hR hS hc hs)
  · exact k.elim
def gi_lshl  : gOp := fun K Q pc lv st h kc ks => match st with
  | .int y :: .long x :: r => K (pc + 1) lv (.long (x <<< (y.toInt64 &&& 63)) :: r) h kc ks
  | _ => False
theorem gs_lshl (hd : decode cc pc = .ok (.lshl, 1)) : gSnd (own, cc, nL, ret, nm, tab, d) pc (gi_lshl) := by
  rintro ⟨G, p, e, s, m, args, below, meth, c, d', MC, MS⟩ Q ⟨hz, hd', hx, hb, hml, hr, hlk, hown, hnm, htab, hW, hzs, hzk⟩ K hKK lv st h kc ks k
  intro H locs cells slots ls hl hR hS hc hs
  dsimp only at hb hml hr hlk hown hnm htab hd'
  unfold gi_lshl at k
  split at k
  · exact lv_lshl hx hb hd rfl (hKK _ _ _ _ _ _ (k) H locs cells slots ls hl hR hS hc hs)
  · exact k.elim
def gi_fadd  : gOp := fun K Q pc lv st h kc ks => match st with
  | .float y :: .float x :: r => vf_n32 (FP.fadd x y) ∧ K (pc + 1) lv (.float (FP.fadd x y) :: r) h kc ks
  | _ => False
theorem gs_fadd (hd : decode cc pc = .ok (.fadd, 1)) : gSnd (own, cc, nL, ret, nm, tab, d) pc (gi_fadd) := by
  rintro ⟨G, p, e, s, m, args, below, meth, c, d', MC, MS⟩ Q ⟨hz, hd', hx, hb, hml, hr, hlk, hown, hnm, htab, hW, hzs, hzk⟩ K hKK lv st h kc ks k
  intro H locs cells slots ls hl hR hS hc hs
  dsimp only at hb hml hr hlk hown hnm htab hd'
  unfold gi_fadd at k
  split at k
  · exact lv_fadd hx hb hd k.1 (hKK _ _ _ _ _ _ (k.2) H locs cells slots ls hl hR hS hc hs)
  · exact k.elim
def gi_fsub  : gOp := fun K Q pc lv st h kc ks => match st with
  | .float y :: .float x :: r => vf_n32 (FP.fsub x y) ∧ K (pc + 1) lv (.float (FP.fsub x y) :: r) h kc ks
  | _ => False
theorem gs_fsub (hd : decode cc pc = .ok (.fsub, 1)) : gSnd (own, cc, nL, ret, nm, tab, d) pc (gi_fsub) := by
  rintro ⟨G, p, e, s, m, args, below, meth, c, d', MC, MS⟩ Q ⟨hz, hd', hx, hb, hml, hr, hlk, hown, hnm, htab, hW, hzs, hzk⟩ K hKK lv st h kc ks k
  intro H locs cells slots ls hl hR hS hc hs
  dsimp only at hb hml hr hlk hown hnm htab hd'
  unfold gi_fsub at k
  split at k
  · exact lv_fsub hx hb hd k.1 (hKK _ _ _ _ _ _ (k.2) H locs cells slots ls hl hR hS hc hs)
  · exact k.elim
def gi_fmul  : gOp := fun K Q pc lv st h kc ks => match st with
  | .float y :: .float x :: r => vf_n32 (FP.fmul x y) ∧ K (pc + 1) lv (.float (FP.fmul x y) :: r) h kc ks
  | _ => False
theorem gs_fmul (hd : decode cc pc = .ok (.fmul, 1)) : gSnd (own, cc, nL, ret, nm, tab, d) pc (gi_fmul) := by
  rintro ⟨G, p, e, s, m, args, below, meth, c, d', MC, MS⟩ Q ⟨hz, hd', hx, hb, hml, hr, hlk, hown, hnm, htab, hW, hzs, hzk⟩ K hKK lv st h kc ks k
  intro H locs cells slots ls hl hR hS hc hs
  dsimp only at hb hml hr hlk hown hnm htab hd'
  unfold gi_fmul at k
  split at k
  · exact lv_fmul hx hb hd k.1 (hKK _ _ _ _ _ _ (k.2) H locs cells slots ls hl hR hS hc hs)
  · exact k.elim
def gi_fdiv  : gOp := fun K Q pc lv st h kc ks => match st with
  | .float y :: .float x :: r => vf_n32 (FP.fdiv x y) ∧ K (pc + 1) lv (.float (FP.fdiv x y) :: r) h kc ks
  | _ => False
theorem gs_fdiv (hd : decode cc pc = .ok (.fdiv, 1)) : gSnd (own, cc, nL, ret, nm, tab, d) pc (gi_fdiv) := by
  rintro ⟨G, p, e, s, m, args, below, meth, c, d', MC, MS⟩ Q ⟨hz, hd', hx, hb, hml, hr, hlk, hown, hnm, htab, hW, hzs, hzk⟩ K hKK lv st h kc ks k
  intro H locs cells slots ls hl hR hS hc hs
  dsimp only at hb hml hr hlk hown hnm htab hd'
  unfold gi_fdiv at k
  split at k
  · exact lv_fdiv hx hb hd k.1 (hKK _ _ _ _ _ _ (k.2) H locs cells slots ls hl hR hS hc hs)
  · exact k.elim
def gi_dadd  : gOp := fun K Q pc lv st h kc ks => match st with
  | .double y :: .double x :: r => vf_n64 (FP.dadd x y) ∧ K (pc + 1) lv (.double (FP.dadd x y) :: r) h kc ks
  | _ => False
theorem gs_dadd (hd : decode cc pc = .ok (.dadd, 1)) : gSnd (own, cc, nL, ret, nm, tab, d) pc (gi_dadd) := by
  rintro ⟨G, p, e, s, m, args, below, meth, c, d', MC, MS⟩ Q ⟨hz, hd', hx, hb, hml, hr, hlk, hown, hnm, htab, hW, hzs, hzk⟩ K hKK lv st h kc ks k
  intro H locs cells slots ls hl hR hS hc hs
  dsimp only at hb hml hr hlk hown hnm htab hd'
  unfold gi_dadd at k
  split at k
  · exact lv_dadd hx hb hd k.1 (hKK _ _ _ _ _ _ (k.2) H locs cells slots ls hl hR hS hc hs)
  · exact k.elim
def gi_dsub  : gOp := fun K Q pc lv st h kc ks => match st with
  | .double y :: .double x :: r => vf_n64 (FP.dsub x y) ∧ K (pc + 1) lv (.double (FP.dsub x y) :: r) h kc ks
  | _ => False
theorem gs_dsub (hd : decode cc pc = .ok (.dsub, 1)) : gSnd (own, cc, nL, ret, nm, tab, d) pc (gi_dsub) := by
  rintro ⟨G, p, e, s, m, args, below, meth, c, d', MC, MS⟩ Q ⟨hz, hd', hx, hb, hml, hr, hlk, hown, hnm, htab, hW, hzs, hzk⟩ K hKK lv st h kc ks k
  intro H locs cells slots ls hl hR hS hc hs
  dsimp only at hb hml hr hlk hown hnm htab hd'
  unfold gi_dsub at k
  split at k
  · exact lv_dsub hx hb hd k.1 (hKK _ _ _ _ _ _ (k.2) H locs cells slots ls hl hR hS hc hs)
  · exact k.elim
def gi_dmul  : gOp := fun K Q pc lv st h kc ks => match st with
  | .double y :: .double x :: r => vf_n64 (FP.dmul x y) ∧ K (pc + 1) lv (.double (FP.dmul x y) :: r) h kc ks
  | _ => False
theorem gs_dmul (hd : decode cc pc = .ok (.dmul, 1)) : gSnd (own, cc, nL, ret, nm, tab, d) pc (gi_dmul) := by
  rintro ⟨G, p, e, s, m, args, below, meth, c, d', MC, MS⟩ Q ⟨hz, hd', hx, hb, hml, hr, hlk, hown, hnm, htab, hW, hzs, hzk⟩ K hKK lv st h kc ks k
  intro H locs cells slots ls hl hR hS hc hs
  dsimp only at hb hml hr hlk hown hnm htab hd'
  unfold gi_dmul at k
  split at k
  · exact lv_dmul hx hb hd k.1 (hKK _ _ _ _ _ _ (k.2) H locs cells slots ls hl hR hS hc hs)
  · exact k.elim
def gi_ddiv  : gOp := fun K Q pc lv st h kc ks => match st with
  | .double y :: .double x :: r => vf_n64 (FP.ddiv x y) ∧ K (pc + 1) lv (.double (FP.ddiv x y) :: r) h kc ks
  | _ => False
theorem gs_ddiv (hd : decode cc pc = .ok (.ddiv, 1)) : gSnd (own, cc, nL, ret, nm, tab, d) pc (gi_ddiv) := by
  rintro ⟨G, p, e, s, m, args, below, meth, c, d', MC, MS⟩ Q ⟨hz, hd', hx, hb, hml, hr, hlk, hown, hnm, htab, hW, hzs, hzk⟩ K hKK lv st h kc ks k
  intro H locs cells slots ls hl hR hS hc hs
  dsimp only at hb hml hr hlk hown hnm htab hd'
  unfold gi_ddiv at k
  split at k
  · exact lv_ddiv hx hb hd k.1 (hKK _ _ _ _ _ _ (k.2) H locs cells slots ls hl hR hS hc hs)
  · exact k.elim
def gi_lcmp  : gOp := fun K Q pc lv st h kc ks => match st with
  | .long y :: .long x :: r => K (pc + 1) lv (.int (lg_cmp x y) :: r) h kc ks
  | _ => False
theorem gs_lcmp (hd : decode cc pc = .ok (.lcmp, 1)) : gSnd (own, cc, nL, ret, nm, tab, d) pc (gi_lcmp) := by
  rintro ⟨G, p, e, s, m, args, below, meth, c, d', MC, MS⟩ Q ⟨hz, hd', hx, hb, hml, hr, hlk, hown, hnm, htab, hW, hzs, hzk⟩ K hKK lv st h kc ks k
  intro H locs cells slots ls hl hR hS hc hs
  dsimp only at hb hml hr hlk hown hnm htab hd'
  unfold gi_lcmp at k
  split at k
  · exact W.lcmp hx hb hd (hKK _ _ _ _ _ _ (k) H locs cells slots ls hl hR hS hc hs)
  · exact k.elim
def gi_fcmp (o : CmpOp) : gOp := fun K Q pc lv st h kc ks => match st with
  | .float y :: .float x :: r => K (pc + 1) lv (.int (Op.cmpValue (FP.fcmp x y) o) :: r) h kc ks
  | _ => False
theorem gs_fcmp {o : CmpOp} (hd : decode cc pc = .ok (.fcmp o, 1)) : gSnd (own, cc, nL, ret, nm, tab, d) pc (gi_fcmp o) := by
  rintro ⟨G, p, e, s, m, args, below, meth, c, d', MC, MS⟩ Q ⟨hz, hd', hx, hb, hml, hr, hlk, hown, hnm, htab, hW, hzs, hzk⟩ K hKK lv st h kc ks k
  intro H locs cells slots ls hl hR hS hc hs
  dsimp only at hb hml hr hlk hown hnm htab hd'
  unfold gi_fcmp at k
  split at k
  · exact lv_fcmp hx hb hd (hKK _ _ _ _ _ _ (k) H locs cells slots ls hl hR hS hc hs)
  · exact k.elim
def gi_dcmp (o : CmpOp) : gOp := fun K Q pc lv st h kc ks => match st with
  | .double y :: .double x :: r => K (pc + 1) lv (.int (Op.cmpValue (FP.dcmp x y) o) :: r) h kc ks
  | _ => False
theorem gs_dcmp {o : CmpOp} (hd : decode cc pc = .ok (.dcmp o, 1)) : gSnd (own, cc, nL, ret, nm, tab, d) pc (gi_dcmp o) := by
  rintro ⟨G, p, e, s, m, args, below, meth, c, d', MC, MS⟩ Q ⟨hz, hd', hx, hb, hml, hr, hlk, hown, hnm, htab, hW, hzs, hzk⟩ K hKK lv st h kc ks k
  intro H locs cells slots ls hl hR hS hc hs
  dsimp only at hb hml hr hlk hown hnm htab hd'
  unfold gi_dcmp at k
  split at k
  · exact lv_dcmp hx hb hd (hKK _ _ _ _ _ _ (k) H locs cells slots ls hl hR hS hc hs)
  · exact k.elim
def gi_i2l  : gOp := fun K Q pc lv st h kc ks => match st with
  | .int x :: r => K (pc + 1) lv (.long (x.toInt64) :: r) h kc ks
  | _ => False
theorem gs_i2l (hd : decode cc pc = .ok (.i2l, 1)) : gSnd (own, cc, nL, ret, nm, tab, d) pc (gi_i2l) := by
  rintro ⟨G, p, e, s, m, args, below, meth, c, d', MC, MS⟩ Q ⟨hz, hd', hx, hb, hml, hr, hlk, hown, hnm, htab, hW, hzs, hzk⟩ K hKK lv st h kc ks k
  intro H locs cells slots ls hl hR hS hc hs
  dsimp only at hb hml hr hlk hown hnm htab hd'
  unfold gi_i2l at k
  split at k
  · exact lv_i2l hx hb hd rfl (hKK _ _ _ _ _ _ (k) H locs cells slots ls hl hR hS hc hs)
  · exact k.elim
def gi_i2c  : gOp := fun K Q pc lv st h kc ks => match st with
  | .int x :: r => K (pc + 1) lv (.int ((x.toUInt32 % 65536).toInt32) :: r) h kc ks
  | _ => False
theorem gs_i2c (hd : decode cc pc = .ok (.i2c, 1)) : gSnd (own, cc, nL, ret, nm, tab, d) pc (gi_i2c) := by
  rintro ⟨G, p, e, s, m, args, below, meth, c, d', MC, MS⟩ Q ⟨hz, hd', hx, hb, hml, hr, hlk, hown, hnm, htab, hW, hzs, hzk⟩ K hKK lv st h kc ks k
  intro H locs cells slots ls hl hR hS hc hs
  dsimp only at hb hml hr hlk hown hnm htab hd'
  unfold gi_i2c at k
  split at k
  · exact lv_i2c hx hb hd rfl (hKK _ _ _ _ _ _ (k) H locs cells slots ls hl hR hS hc hs)
  · exact k.elim
def gi_i2b  : gOp := fun K Q pc lv st h kc ks => match st with
  | .int x :: r => K (pc + 1) lv (.int (x.toInt8.toInt32) :: r) h kc ks
  | _ => False
theorem gs_i2b (hd : decode cc pc = .ok (.i2b, 1)) : gSnd (own, cc, nL, ret, nm, tab, d) pc (gi_i2b) := by
  rintro ⟨G, p, e, s, m, args, below, meth, c, d', MC, MS⟩ Q ⟨hz, hd', hx, hb, hml, hr, hlk, hown, hnm, htab, hW, hzs, hzk⟩ K hKK lv st h kc ks k
  intro H locs cells slots ls hl hR hS hc hs
  dsimp only at hb hml hr hlk hown hnm htab hd'
  unfold gi_i2b at k
  split at k
  · exact lv_i2b hx hb hd rfl (hKK _ _ _ _ _ _ (k) H locs cells slots ls hl hR hS hc hs)
  · exact k.elim
def gi_i2f  : gOp := fun K Q pc lv st h kc ks => match st with
  | .int x :: r => K (pc + 1) lv (.float (FP.i2f x) :: r) h kc ks
  | _ => False
theorem gs_i2f (hd : decode cc pc = .ok (.i2f, 1)) : gSnd (own, cc, nL, ret, nm, tab, d) pc (gi_i2f) := by
  rintro ⟨G, p, e, s, m, args, below, meth, c, d', MC, MS⟩ Q ⟨hz, hd', hx, hb, hml, hr, hlk, hown, hnm, htab, hW, hzs, hzk⟩ K hKK lv st h kc ks k
  intro H locs cells slots ls hl hR hS hc hs
  dsimp only at hb hml hr hlk hown hnm htab hd'
  unfold gi_i2f at k
  split at k
  · exact lv_i2f hx hb hd (hKK _ _ _ _ _ _ (k) H locs cells slots ls hl hR hS hc hs)
  · exact k.elim
def gi_i2d  : gOp := fun K Q pc lv st h kc ks => match st with
  | .int x :: r => K (pc + 1) lv (.double (FP.i2d x) :: r) h kc ks
  | _ => False
theorem gs_i2d (hd : decode cc pc = .ok (.i2d, 1)) : gSnd (own, cc, nL, ret, nm, tab, d) pc (gi_i2d) := by
  rintro ⟨G, p, e, s, m, args, below, meth, c, d', MC, MS⟩ Q ⟨hz, hd', hx, hb, hml, hr, hlk, hown, hnm, htab, hW, hzs, hzk⟩ K hKK lv st h kc ks k
  intro H locs cells slots ls hl hR hS hc hs
  dsimp only at hb hml hr hlk hown hnm htab hd'
  unfold gi_i2d at k
  split at k
  · exact lv_i2d hx hb hd (hKK _ _ _ _ _ _ (k) H locs cells slots ls hl hR hS hc hs)
  · exact k.elim
def gi_f2i  : gOp := fun K Q pc lv st h kc ks => match st with
  | .float x :: r => K (pc + 1) lv (.int (FP.f2i x) :: r) h kc ks
  | _ => False
theorem gs_f2i (hd : decode cc pc = .ok (.f2i, 1)) : gSnd (own, cc, nL, ret, nm, tab, d) pc (gi_f2i) := by
  rintro ⟨G, p, e, s, m, args, below, meth, c, d', MC, MS⟩ Q ⟨hz, hd', hx, hb, hml, hr, hlk, hown, hnm, htab, hW, hzs, hzk⟩ K hKK lv st h kc ks k
  intro H locs cells slots ls hl hR hS hc hs
  dsimp only at hb hml hr hlk hown hnm htab hd'
  unfold gi_f2i at k
  split at k
  · exact lv_f2i hx hb hd (hKK _ _ _ _ _ _ (k) H locs cells slots ls hl hR hS hc hs)
  · exact k.elim
def gi_d2l  : gOp := fun K Q pc lv st h kc ks => match st with
  | .double x :: r => K (pc + 1) lv (.long (FP.d2l x) :: r) h kc ks
  | _ => False
theorem gs_d2l (hd : decode cc pc = .ok (.d2l, 1)) : gSnd (own, cc, nL, ret, nm, tab, d) pc (gi_d2l) := by
  rintro ⟨G, p, e, s, m, args, below, meth, c, d', MC, MS⟩ Q ⟨hz, hd', hx, hb, hml, hr, hlk, hown, hnm, htab, hW, hzs, hzk⟩ K hKK lv st h kc ks k
  intro H locs cells slots ls hl hR hS hc hs
  dsimp only at hb hml hr hlk hown hnm htab hd'
  unfold gi_d2l at k
  split at k
  · exact lv_d2l hx hb hd (hKK _ _ _ _ _ _ (k) H locs cells slots ls hl hR hS hc hs)
  · exact k.elim
def gi_f2d  : gOp := fun K Q pc lv st h kc ks => match st with
  | .float x :: r => vf_n64 (FP.f2d x) ∧ K (pc + 1) lv (.double (FP.f2d x) :: r) h kc ks
  | _ => False
theorem gs_f2d (hd : decode cc pc = .ok (.f2d, 1)) : gSnd (own, cc, nL, ret, nm, tab, d) pc (gi_f2d) := by
  rintro ⟨G, p, e, s, m, args, below, meth, c, d', MC, MS⟩ Q ⟨hz, hd', hx, hb, hml, hr, hlk, hown, hnm, htab, hW, hzs, hzk⟩ K hKK lv st h kc ks k
  intro H locs cells slots ls hl hR hS hc hs
  dsimp only at hb hml hr hlk hown hnm htab hd'
  unfold gi_f2d at k
  split at k
  · exact lv_f2d hx hb hd k.1 (hKK _ _ _ _ _ _ (k.2) H locs cells slots ls hl hR hS hc hs)
  · exact k.elim
def gi_dup  : gOp := fun K Q pc lv st h kc ks => match st with
  | v :: r => v.category = 1 ∧ K (pc + 1) lv (v :: v :: r) h kc ks
  | _ => False
theorem gs_dup (hd : decode cc pc = .ok (.dup, 1)) : gSnd (own, cc, nL, ret, nm, tab, d) pc (gi_dup) := by
  rintro ⟨G, p, e, s, m, args, below, meth, c, d', MC, MS⟩ Q ⟨hz, hd', hx, hb, hml, hr, hlk, hown, hnm, htab, hW, hzs, hzk⟩ K hKK lv st h kc ks k
  intro H locs cells slots ls hl hR hS hc hs
  dsimp only at hb hml hr hlk hown hnm htab hd'
  unfold gi_dup at k
  split at k
  · exact lv_dup hx hb hd k.1 (hKK _ _ _ _ _ _ (k.2) H locs cells slots ls hl hR hS hc hs)
  · exact k.elim
def gi_pop  : gOp := fun K Q pc lv st h kc ks => match st with
  | v :: r => v.category = 1 ∧ K (pc + 1) lv r h kc ks
  | _ => False
theorem gs_pop (hd : decode cc pc = .ok (.pop, 1)) : gSnd (own, cc, nL, ret, nm, tab, d) pc (gi_pop) := by
  rintro ⟨G, p, e, s, m, args, below, meth, c, d', MC, MS⟩ Q ⟨hz, hd', hx, hb, hml, hr, hlk, hown, hnm, htab, hW, hzs, hzk⟩ K hKK lv st h kc ks k
  intro H locs cells slots ls hl hR hS hc hs
  dsimp only at hb hml hr hlk hown hnm htab hd'
  unfold gi_pop at k
  split at k
  · exact lv_pop hx hb hd k.1 (hKK _ _ _ _ _ _ (k.2) H locs cells slots ls hl hR hS hc hs)
  · exact k.elim
def gi_dup2  : gOp := fun K Q pc lv st h kc ks => match st with
  | v :: u :: r => v.category = 1 ∧ u.category = 1 ∧ K (pc + 1) lv (v :: u :: v :: u :: r) h kc ks
  | _ => False
theorem gs_dup2 (hd : decode cc pc = .ok (.dup2, 1)) : gSnd (own, cc, nL, ret, nm, tab, d) pc (gi_dup2) := by
  rintro ⟨G, p, e, s, m, args, below, meth, c, d', MC, MS⟩ Q ⟨hz, hd', hx, hb, hml, hr, hlk, hown, hnm, htab, hW, hzs, hzk⟩ K hKK lv st h kc ks k
  intro H locs cells slots ls hl hR hS hc hs
  dsimp only at hb hml hr hlk hown hnm htab hd'
  unfold gi_dup2 at k
  split at k
  · exact lv_dup2_11 hx hb hd k.1 k.2.1 (hKK _ _ _ _ _ _ (k.2.2) H locs cells slots ls hl hR hS hc hs)
  · exact k.elim
def gi_dup_x1  : gOp := fun K Q pc lv st h kc ks => match st with
  | v :: u :: r => v.category = 1 ∧ u.category = 1 ∧ K (pc + 1) lv (v :: u :: v :: r) h kc ks
  | _ => False
theorem gs_dup_x1 (hd : decode cc pc = .ok (.dup_x1, 1)) : gSnd (own, cc, nL, ret, nm, tab, d) pc (gi_dup_x1) := by
  rintro ⟨G, p, e, s, m, args, below, meth, c, d', MC, MS⟩ Q ⟨hz, hd', hx, hb, hml, hr, hlk, hown, hnm, htab, hW, hzs, hzk⟩ K hKK lv st h kc ks k
  intro H locs cells slots ls hl hR hS hc hs
  dsimp only at hb hml hr hlk hown hnm htab hd'
  unfold gi_dup_x1 at k
  split at k
  · exact lv_dup_x1 hx hb hd k.1 k.2.1 (hKK _ _ _ _ _ _ (k.2.2) H locs cells slots ls hl hR hS hc hs)
  · exact k.elim
def gi_if_eq (t : Nat) : gOp := fun K Q pc lv st h kc ks => match st with
  | .int x :: r => (x = 0 → K t lv r h kc ks) ∧ (¬ x = 0 → K (pc + 3) lv r h kc ks)
  | _ => False
theorem gs_if_eq {off : Int} {t : Nat} (hd : decode cc pc = .ok (.ifCond .eq off, 3)) (ht : (pc : Int) + off = (t : Int)) : gSnd (own, cc, nL, ret, nm, tab, d) pc (gi_if_eq t) := by
  rintro ⟨G, p, e, s, m, args, below, meth, c, d', MC, MS⟩ Q ⟨hz, hd', hx, hb, hml, hr, hlk, hown, hnm, htab, hW, hzs, hzk⟩ K hKK lv st h kc ks k
  intro H locs cells slots ls hl hR hS hc hs
  dsimp only at hb hml hr hlk hown hnm htab hd'
  unfold gi_if_eq at k
  split at k
  · exact lv_if_eq hx hb hd ht (fun q => hKK _ _ _ _ _ _ (k.1 q) H locs cells slots ls hl hR hS hc hs) (fun q => hKK _ _ _ _ _ _ (k.2 q) H locs cells slots ls hl hR hS hc hs)
  · exact k.elim
def gi_if_ne (t : Nat) : gOp := fun K Q pc lv st h kc ks => match st with
  | .int x :: r => (¬ x = 0 → K t lv r h kc ks) ∧ (x = 0 → K (pc + 3) lv r h kc ks)
  | _ => False
theorem gs_if_ne {off : Int} {t : Nat} (hd : decode cc pc = .ok (.ifCond .ne off, 3)) (ht : (pc : Int) + off = (t : Int)) : gSnd (own, cc, nL, ret, nm, tab, d) pc (gi_if_ne t) := by
  rintro ⟨G, p, e, s, m, args, below, meth, c, d', MC, MS⟩ Q ⟨hz, hd', hx, hb, hml, hr, hlk, hown, hnm, htab, hW, hzs, hzk⟩ K hKK lv st h kc ks k
  intro H locs cells slots ls hl hR hS hc hs
  dsimp only at hb hml hr hlk hown hnm htab hd'
  unfold gi_if_ne at k
  split at k
  · exact lv_if_ne hx hb hd ht (fun q => hKK _ _ _ _ _ _ (k.1 q) H locs cells slots ls hl hR hS hc hs) (fun q => hKK _ _ _ _ _ _ (k.2 q) H locs cells slots ls hl hR hS hc hs)
  · exact k.elim
def gi_if_lt (t : Nat) : gOp := fun K Q pc lv st h kc ks => match st with
  | .int x :: r => (x < 0 → K t lv r h kc ks) ∧ (¬ x < 0 → K (pc + 3) lv r h kc ks)
  | _ => False
theorem gs_if_lt {off : Int} {t : Nat} (hd : decode cc pc = .ok (.ifCond .lt off, 3)) (ht : (pc : Int) + off = (t : Int)) : gSnd (own, cc, nL, ret, nm, tab, d) pc (gi_if_lt t) := by
  rintro ⟨G, p, e, s, m, args, below, meth, c, d', MC, MS⟩ Q ⟨hz, hd', hx, hb, hml, hr, hlk, hown, hnm, htab, hW, hzs, hzk⟩ K hKK lv st h kc ks k
  intro H locs cells slots ls hl hR hS hc hs
  dsimp only at hb hml hr hlk hown hnm htab hd'
  unfold gi_if_lt at k
  split at k
  · exact lv_if_lt hx hb hd ht (fun q => hKK _ _ _ _ _ _ (k.1 q) H locs cells slots ls hl hR hS hc hs) (fun q => hKK _ _ _ _ _ _ (k.2 q) H locs cells slots ls hl hR hS hc hs)
  · exact k.elim
def gi_if_ge (t : Nat) : gOp := fun K Q pc lv st h kc ks => match st with
  | .int x :: r => (0 ≤ x → K t lv r h kc ks) ∧ (¬ 0 ≤ x → K (pc + 3) lv r h kc ks)
  | _ => False
theorem gs_if_ge {off : Int} {t : Nat} (hd : decode cc pc = .ok (.ifCond .ge off, 3)) (ht : (pc : Int) + off = (t : Int)) : gSnd (own, cc, nL, ret, nm, tab, d) pc (gi_if_ge t) := by
  rintro ⟨G, p, e, s, m, args, below, meth, c, d', MC, MS⟩ Q ⟨hz, hd', hx, hb, hml, hr, hlk, hown, hnm, htab, hW, hzs, hzk⟩ K hKK lv st h kc ks k
  intro H locs cells slots ls hl hR hS hc hs
  dsimp only at hb hml hr hlk hown hnm htab hd'
  unfold gi_if_ge at k
  split at k
  · exact lv_if_ge hx hb hd ht (fun q => hKK _ _ _ _ _ _ (k.1 q) H locs cells slots ls hl hR hS hc hs) (fun q => hKK _ _ _ _ _ _ (k.2 q) H locs cells slots ls hl hR hS hc hs)
  · exact k.elim
def gi_if_gt (t : Nat) : gOp := fun K Q pc lv st h kc ks => match st with
  | .int x :: r => (0 < x → K t lv r h kc ks) ∧ (¬ 0 < x → K (pc + 3) lv r h kc ks)
  | _ => False
theorem gs_if_gt {off : Int} {t : Nat} (hd : decode cc pc = .ok (.ifCond .gt off, 3)) (ht : (pc : Int) + off = (t : Int)) : gSnd (own, cc, nL, ret, nm, tab, d) pc (gi_if_gt t) := by
  rintro ⟨G, p, e, s, m, args, below, meth, c, d', MC, MS⟩ Q ⟨hz, hd', hx, hb, hml, hr, hlk, hown, hnm, htab, hW, hzs, hzk⟩ K hKK lv st h kc ks k
  intro H locs cells slots ls hl hR hS hc hs
  dsimp only at hb hml hr hlk hown hnm htab hd'
  unfold gi_if_gt at k
  split at k
  · exact lv_if_gt hx hb hd ht (fun q => hKK _ _ _ _ _ _ (k.1 q) H locs cells slots ls hl hR hS hc hs) (fun q => hKK _ _ _ _ _ _ (k.2 q) H locs cells slots ls hl hR hS hc hs)
  · exact k.elim
def gi_if_le (t : Nat) : gOp := fun K Q pc lv st h kc ks => match st with
  | .int x :: r => (x ≤ 0 → K t lv r h kc ks) ∧ (¬ x ≤ 0 → K (pc + 3) lv r h kc ks)
  | _ => False
theorem gs_if_le {off : Int} {t : Nat} (hd : decode cc pc = .ok (.ifCond .le off, 3)) (ht : (pc : Int) + off = (t : Int)) : gSnd (own, cc, nL, ret, nm, tab, d) pc (gi_if_le t) := by
  rintro ⟨G, p, e, s, m, args, below, meth, c, d', MC, MS⟩ Q ⟨hz, hd', hx, hb, hml, hr, hlk, hown, hnm, htab, hW, hzs, hzk⟩ K hKK lv st h kc ks k
  intro H locs cells slots ls hl hR hS hc hs
  dsimp only at hb hml hr hlk hown hnm htab hd'
  unfold gi_if_le at k
  split at k
  · exact lv_if_le hx hb hd ht (fun q => hKK _ _ _ _ _ _ (k.1 q) H locs cells slots ls hl hR hS hc hs) (fun q => hKK _ _ _ _ _ _ (k.2 q) H locs cells slots ls hl hR hS hc hs)
  · exact k.elim
def gi_ic_eq (t : Nat) : gOp := fun K Q pc lv st h kc ks => match st with
  | .int y :: .int x :: r => (x = y → K t lv r h kc ks) ∧ (¬ x = y → K (pc + 3) lv r h kc ks)
  | _ => False
theorem gs_ic_eq {off : Int} {t : Nat} (hd : decode cc pc = .ok (.if_icmp .eq off, 3)) (ht : (pc : Int) + off = (t : Int)) : gSnd (own, cc, nL, ret, nm, tab, d) pc (gi_ic_eq t) := by
  rintro ⟨G, p, e, s, m, args, below, meth, c, d', MC, MS⟩ Q ⟨hz, hd', hx, hb, hml, hr, hlk, hown, hnm, htab, hW, hzs, hzk⟩ K hKK lv st h kc ks k
  intro H locs cells slots ls hl hR hS hc hs
  dsimp only at hb hml hr hlk hown hnm htab hd'
  unfold gi_ic_eq at k
  split at k
  · exact lv_icmp_eq hx hb hd ht (fun q => hKK _ _ _ _ _ _ (k.1 q) H locs cells slots ls hl hR hS hc hs) (fun q => hKK _ _ _ _ _ _ (k.2 q) H locs cells slots ls hl hR hS hc hs)
  · exact k.elim
def gi_ic_ne (t : Nat) : gOp := fun K Q pc lv st h kc ks => match st with
  | .int y :: .int x :: r => (¬ x = y → K t lv r h kc ks) ∧ (x = y → K (pc + 3) lv r h kc ks)
  | _ => False
theorem gs_ic_ne {off : Int} {t : Nat} (hd : decode cc pc = .ok (.if_icmp .ne off, 3)) (ht : (pc : Int) + off = (t : Int)) : gSnd (own, cc, nL, ret, nm, tab, d) pc (gi_ic_ne t) := by
  rintro ⟨G, p, e, s, m, args, below, meth, c, d', MC, MS⟩ Q ⟨hz, hd', hx, hb, hml, hr, hlk, hown, hnm, htab, hW, hzs, hzk⟩ K hKK lv st h kc ks k
  intro H locs cells slots ls hl hR hS hc hs
  dsimp only at hb hml hr hlk hown hnm htab hd'
  unfold gi_ic_ne at k
  split at k
  · exact lv_icmp_ne hx hb hd ht (fun q => hKK _ _ _ _ _ _ (k.1 q) H locs cells slots ls hl hR hS hc hs) (fun q => hKK _ _ _ _ _ _ (k.2 q) H locs cells slots ls hl hR hS hc hs)
  · exact k.elim
def gi_ic_lt (t : Nat) : gOp := fun K Q pc lv st h kc ks => match st with
  | .int y :: .int x :: r => (x < y → K t lv r h kc ks) ∧ (¬ x < y → K (pc + 3) lv r h kc ks)
  | _ => False
theorem gs_ic_lt {off : Int} {t : Nat} (hd : decode cc pc = .ok (.if_icmp .lt off, 3)) (ht : (pc : Int) + off = (t : Int)) : gSnd (own, cc, nL, ret, nm, tab, d) pc (gi_ic_lt t) := by
  rintro ⟨G, p, e, s, m, args, below, meth, c, d', MC, MS⟩ Q ⟨hz, hd', hx, hb, hml, hr, hlk, hown, hnm, htab, hW, hzs, hzk⟩ K hKK lv st h kc ks k
  intro H locs cells slots ls hl hR hS hc hs
  dsimp only at hb hml hr hlk hown hnm htab hd'
  unfold gi_ic_lt at k
  split at k
  · exact lv_icmp_lt hx hb hd ht (fun q => hKK _ _ _ _ _ _ (k.1 q) H locs cells slots ls hl hR hS hc hs) (fun q => hKK _ _ _ _ _ _ (k.2 q) H locs cells slots ls hl hR hS hc hs)
  · exact k.elim
def gi_ic_ge (t : Nat) : gOp := fun K Q pc lv st h kc ks => match st with
  | .int y :: .int x :: r => (y ≤ x → K t lv r h kc ks) ∧ (¬ y ≤ x → K (pc + 3) lv r h kc ks)
  | _ => False
theorem gs_ic_ge {off : Int} {t : Nat} (hd : decode cc pc = .ok (.if_icmp .ge off, 3)) (ht : (pc : Int) + off = (t : Int)) : gSnd (own, cc, nL, ret, nm, tab, d) pc (gi_ic_ge t) := by
  rintro ⟨G, p, e, s, m, args, below, meth, c, d', MC, MS⟩ Q ⟨hz, hd', hx, hb, hml, hr, hlk, hown, hnm, htab, hW, hzs, hzk⟩ K hKK lv st h kc ks k
  intro H locs cells slots ls hl hR hS hc hs
  dsimp only at hb hml hr hlk hown hnm htab hd'
  unfold gi_ic_ge at k
  split at k
  · exact lv_icmp_ge hx hb hd ht (fun q => hKK _ _ _ _ _ _ (k.1 q) H locs cells slots ls hl hR hS hc hs) (fun q => hKK _ _ _ _ _ _ (k.2 q) H locs cells slots ls hl hR hS hc hs)
  · exact k.elim
def gi_ic_gt (t : Nat) : gOp := fun K Q pc lv st h kc ks => match st with
  | .int y :: .int x :: r => (y < x → K t lv r h kc ks) ∧ (¬ y < x → K (pc + 3) lv r h kc ks)
  | _ => False
theorem gs_ic_gt {off : Int} {t : Nat} (hd : decode cc pc = .ok (.if_icmp .gt off, 3)) (ht : (pc : Int) + off = (t : Int)) : gSnd (own, cc, nL, ret, nm, tab, d) pc (gi_ic_gt t) := by
  rintro ⟨G, p, e, s, m, args, below, meth, c, d', MC, MS⟩ Q ⟨hz, hd', hx, hb, hml, hr, hlk, hown, hnm, htab, hW, hzs, hzk⟩ K hKK lv st h kc ks k
  intro H locs cells slots ls hl hR hS hc hs
  dsimp only at hb hml hr hlk hown hnm htab hd'
  unfold gi_ic_gt at k
  split at k
  · exact lv_icmp_gt hx hb hd ht (fun q => hKK _ _ _ _ _ _ (k.1 q) H locs cells slots ls hl hR hS hc hs) (fun q => hKK _ _ _ _ _ _ (k.2 q) H locs cells slots ls hl hR hS hc hs)
  · exact k.elim
def gi_ic_le (t : Nat) : gOp := fun K Q pc lv st h kc ks => match st with
  | .int y :: .int x :: r => (x ≤ y → K t lv r h kc ks) ∧ (¬ x ≤ y → K (pc + 3) lv r h kc ks)
  | _ => False
theorem gs_ic_le {off : Int} {t : Nat} (hd : decode cc pc = .ok (.if_icmp .le off, 3)) (ht : (pc : Int) + off = (t : Int)) : gSnd (own, cc, nL, ret, nm, tab, d) pc (gi_ic_le t) := by
  rintro ⟨G, p, e, s, m, args, below, meth, c, d', MC, MS⟩ Q ⟨hz, hd', hx, hb, hml, hr, hlk, hown, hnm, htab, hW, hzs, hzk⟩ K hKK lv st h kc ks k
  intro H locs cells slots ls hl hR hS hc hs
  dsimp only at hb hml hr hlk hown hnm htab hd'
  unfold gi_ic_le at k
  split at k
  · exact lv_icmp_le hx hb hd ht (fun q => hKK _ _ _ _ _ _ (k.1 q) H locs cells slots ls hl hR hS hc hs) (fun q => hKK _ _ _ _ _ _ (k.2 q) H locs cells slots ls hl hR hS hc hs)
  · exact k.elim
def gi_goto (t : Nat) : gOp := fun K Q pc lv st h kc ks => K t lv st h kc ks
theorem gs_goto {off : Int} {t : Nat} (hd : decode cc pc = .ok (.goto off, 3)) (ht : (pc : Int) + off = (t : Int)) : gSnd (own, cc, nL, ret, nm, tab, d) pc (gi_goto t) := by
  rintro ⟨G, p, e, s, m, args, below, meth, c, d', MC, MS⟩ Q ⟨hz, hd', hx, hb, hml, hr, hlk, hown, hnm, htab, hW, hzs, hzk⟩ K hKK lv st h kc ks k
  intro H locs cells slots ls hl hR hS hc hs
  dsimp only at hb hml hr hlk hown hnm htab hd'
  exact lv_goto hx hb hd ht (hKK _ _ _ _ _ _ (k) H locs cells slots ls hl hR hS hc hs)
def grv (v : Value) : Option (Option Nat) := match v with
  | .null => some none
  | .ref a => some (some a)
  | _ => none
theorem grv_eq {v : Value} {r : Option Nat} (h : grv v = some r) : v = va_rf r := by
  unfold grv at h
  split at h <;> cases h <;> rfl
def gi_ac_eq (t : Nat) : gOp := fun K Q pc lv st h kc ks => match st with
  | b :: a :: r => match grv a, grv b with
    | some x, some y => (x = y → K t lv r h kc ks) ∧ (¬ x = y → K (pc + 3) lv r h kc ks)
    | _, _ => False
  | _ => False
theorem gs_ac_eq {off : Int} {t : Nat} (hd : decode cc pc = .ok (.if_acmp .eq off, 3)) (ht : (pc : Int) + off = (t : Int)) : gSnd (own, cc, nL, ret, nm, tab, d) pc (gi_ac_eq t) := by
  rintro ⟨G, p, e, s, m, args, below, meth, c, d', MC, MS⟩ Q ⟨hz, hd', hx, hb, hml, hr, hlk, hown, hnm, htab, hW, hzs, hzk⟩ K hKK lv st h kc ks k
  intro H locs cells slots ls hl hR hS hc hs
  dsimp only at hb hml hr hlk hown hnm htab hd'
  unfold gi_ac_eq at k
  split at k
  · split at k
    · rename_i ha hb9
      rw [grv_eq ha, grv_eq hb9]
      exact lv_acmp_eq hx hb hd ht (fun q => hKK _ _ _ _ _ _ (k.1 q) H locs cells slots ls hl hR hS hc hs) (fun q => hKK _ _ _ _ _ _ (k.2 q) H locs cells slots ls hl hR hS hc hs)
    · exact k.elim
  · exact k.elim
def gi_ac_ne (t : Nat) : gOp := fun K Q pc lv st h kc ks => match st with
  | b :: a :: r => match grv a, grv b with
    | some x, some y => (¬ x = y → K t lv r h kc ks) ∧ (x = y → K (pc + 3) lv r h kc ks)
    | _, _ => False
  | _ => False
theorem gs_ac_ne {off : Int} {t : Nat} (hd : decode cc pc = .ok (.if_acmp .ne off, 3)) (ht : (pc : Int) + off = (t : Int)) : gSnd (own, cc, nL, ret, nm, tab, d) pc (gi_ac_ne t) := by
  rintro ⟨G, p, e, s, m, args, below, meth, c, d', MC, MS⟩ Q ⟨hz, hd', hx, hb, hml, hr, hlk, hown, hnm, htab, hW, hzs, hzk⟩ K hKK lv st h kc ks k
  intro H locs cells slots ls hl hR hS hc hs
  dsimp only at hb hml hr hlk hown hnm htab hd'
  unfold gi_ac_ne at k
  split at k
  · split at k
    · rename_i ha hb9
      rw [grv_eq ha, grv_eq hb9]
      exact lv_acmp_ne hx hb hd ht (fun q => hKK _ _ _ _ _ _ (k.1 q) H locs cells slots ls hl hR hS hc hs) (fun q => hKK _ _ _ _ _ _ (k.2 q) H locs cells slots ls hl hR hS hc hs)
    · exact k.elim
  · exact k.elim
def gi_ifnull (t : Nat) : gOp := fun K Q pc lv st h kc ks => match st with
  | .null :: r => K t lv r h kc ks
  | .ref _ :: r => K (pc + 3) lv r h kc ks
  | _ => False
theorem gs_ifnull {off : Int} {t : Nat} (hd : decode cc pc = .ok (.ifnull off, 3)) (ht : (pc : Int) + off = (t : Int)) : gSnd (own, cc, nL, ret, nm, tab, d) pc (gi_ifnull t) := by
  rintro ⟨G, p, e, s, m, args, below, meth, c, d', MC, MS⟩ Q ⟨hz, hd', hx, hb, hml, hr, hlk, hown, hnm, htab, hW, hzs, hzk⟩ K hKK lv st h kc ks k
  intro H locs cells slots ls hl hR hS hc hs
  dsimp only at hb hml hr hlk hown hnm htab hd'
  unfold gi_ifnull at k
  split at k
  · exact lv_ifnullN hx hb hd ht (hKK _ _ _ _ _ _ (k) H locs cells slots ls hl hR hS hc hs)
  · exact lv_ifnull hx hb hd (hKK _ _ _ _ _ _ (k) H locs cells slots ls hl hR hS hc hs)
  · exact k.elim
def gi_ifnonnull (t : Nat) : gOp := fun K Q pc lv st h kc ks => match st with
  | .null :: r => K (pc + 3) lv r h kc ks
  | .ref _ :: r => K t lv r h kc ks
  | _ => False
theorem gs_ifnonnull {off : Int} {t : Nat} (hd : decode cc pc = .ok (.ifnonnull off, 3)) (ht : (pc : Int) + off = (t : Int)) : gSnd (own, cc, nL, ret, nm, tab, d) pc (gi_ifnonnull t) := by
  rintro ⟨G, p, e, s, m, args, below, meth, c, d', MC, MS⟩ Q ⟨hz, hd', hx, hb, hml, hr, hlk, hown, hnm, htab, hW, hzs, hzk⟩ K hKK lv st h kc ks k
  intro H locs cells slots ls hl hR hS hc hs
  dsimp only at hb hml hr hlk hown hnm htab hd'
  unfold gi_ifnonnull at k
  split at k
  · exact lv_ifnonnullN hx hb hd (hKK _ _ _ _ _ _ (k) H locs cells slots ls hl hR hS hc hs)
  · exact lv_ifnonnull hx hb hd ht (hKK _ _ _ _ _ _ (k) H locs cells slots ls hl hR hS hc hs)
  · exact k.elim
def gi_iret  : gOp := fun K Q pc lv st h kc ks => match st with
  | [.int x] => Q (.inl (some (.int x))) h
  | _ => False
theorem gs_iret (hd : decode cc pc = .ok (.ireturn, 1)) (hr0 : ret = some .int) : gSnd (own, cc, nL, ret, nm, tab, d) pc (gi_iret) := by
  rintro ⟨G, p, e, s, m, args, below, meth, c, d', MC, MS⟩ Q ⟨hz, hd', hx, hb, hml, hr, hlk, hown, hnm, htab, hW, hzs, hzk⟩ K hKK lv st h kc ks k
  intro H locs cells slots ls hl hR hS hc hs
  dsimp only at hb hml hr hlk hown hnm htab hd'
  unfold gi_iret at k
  split at k
  · rename_i x
    exact W.widen (k := MC) (n := MS) (by omega) (by omega) (vx_ret (W.iret hx hb (hr.trans hr0) (fun t ht hW9 => ⟨⟨_, h, rfl, k, by rw [ht]; exact hR⟩, hS.F ht⟩) hS.2.2 hd))
  · exact k.elim
def gi_zret (ty : FieldType) : gOp := fun K Q pc lv st h kc ks => match st with
  | [.int x] => narrow ty (.int x) = .int x ∧ Q (.inl (some (.int x))) h
  | _ => False
theorem gs_zret {ty : FieldType} (hd : decode cc pc = .ok (.ireturn, 1)) (hr0 : ret = some ty) : gSnd (own, cc, nL, ret, nm, tab, d) pc (gi_zret ty) := by
  rintro ⟨G, p, e, s, m, args, below, meth, c, d', MC, MS⟩ Q ⟨hz, hd', hx, hb, hml, hr, hlk, hown, hnm, htab, hW, hzs, hzk⟩ K hKK lv st h kc ks k
  intro H locs cells slots ls hl hR hS hc hs
  dsimp only at hb hml hr hlk hown hnm htab hd'
  unfold gi_zret at k
  split at k
  · rename_i x
    exact W.widen (k := MC) (n := MS) (by omega) (by omega) (vx_ret (W.zret hx hb (hr.trans hr0) k.1 (fun t ht hW9 => ⟨⟨_, h, rfl, k.2, by rw [ht]; exact hR⟩, hS.F ht⟩) hS.2.2 hd))
  · exact k.elim
def gi_lret  : gOp := fun K Q pc lv st h kc ks => match st with
  | [.long x] => Q (.inl (some (.long x))) h
  | _ => False
theorem gs_lret (hd : decode cc pc = .ok (.lreturn, 1)) (hr0 : ret = some .long) : gSnd (own, cc, nL, ret, nm, tab, d) pc (gi_lret) := by
  rintro ⟨G, p, e, s, m, args, below, meth, c, d', MC, MS⟩ Q ⟨hz, hd', hx, hb, hml, hr, hlk, hown, hnm, htab, hW, hzs, hzk⟩ K hKK lv st h kc ks k
  intro H locs cells slots ls hl hR hS hc hs
  dsimp only at hb hml hr hlk hown hnm htab hd'
  unfold gi_lret at k
  split at k
  · rename_i x
    exact W.widen (k := MC) (n := MS) (by omega) (by omega) (vx_ret (W.lret hx hb (hr.trans hr0) (fun t ht hW9 => ⟨⟨_, h, rfl, k, by rw [ht]; exact hR⟩, hS.F ht⟩) hS.2.2 hd))
  · exact k.elim
def gi_fret  : gOp := fun K Q pc lv st h kc ks => match st with
  | [.float x] => Q (.inl (some (.float x))) h
  | _ => False
theorem gs_fret (hd : decode cc pc = .ok (.freturn, 1)) (hr0 : ret = some .float) : gSnd (own, cc, nL, ret, nm, tab, d) pc (gi_fret) := by
  rintro ⟨G, p, e, s, m, args, below, meth, c, d', MC, MS⟩ Q ⟨hz, hd', hx, hb, hml, hr, hlk, hown, hnm, htab, hW, hzs, hzk⟩ K hKK lv st h kc ks k
  intro H locs cells slots ls hl hR hS hc hs
  dsimp only at hb hml hr hlk hown hnm htab hd'
  unfold gi_fret at k
  split at k
  · rename_i x
    exact W.widen (k := MC) (n := MS) (by omega) (by omega) (vx_ret (W.fret hx hb (hr.trans hr0) (fun t ht hW9 => ⟨⟨_, h, rfl, k, by rw [ht]; exact hR⟩, hS.F ht⟩) hS.2.2 hd))
  · exact k.elim
def gi_dret  : gOp := fun K Q pc lv st h kc ks => match st with
  | [.double x] => Q (.inl (some (.double x))) h
  | _ => False
theorem gs_dret (hd : decode cc pc = .ok (.dreturn, 1)) (hr0 : ret = some .double) : gSnd (own, cc, nL, ret, nm, tab, d) pc (gi_dret) := by
  rintro ⟨G, p, e, s, m, args, below, meth, c, d', MC, MS⟩ Q ⟨hz, hd', hx, hb, hml, hr, hlk, hown, hnm, htab, hW, hzs, hzk⟩ K hKK lv st h kc ks k
  intro H locs cells slots ls hl hR hS hc hs
  dsimp only at hb hml hr hlk hown hnm htab hd'
  unfold gi_dret at k
  split at k
  · rename_i x
    exact W.widen (k := MC) (n := MS) (by omega) (by omega) (vx_ret (W.dret hx hb (hr.trans hr0) (fun t ht hW9 => ⟨⟨_, h, rfl, k, by rw [ht]; exact hR⟩, hS.F ht⟩) hS.2.2 hd))
  · exact k.elim
def gi_vret  : gOp := fun K Q pc lv st h kc ks => match st with
  | [] => Q (.inl none) h
  | _ => False
theorem gs_vret (hd : decode cc pc = .ok (.return_, 1)) (hr0 : ret = none) : gSnd (own, cc, nL, ret, nm, tab, d) pc (gi_vret) := by
  rintro ⟨G, p, e, s, m, args, below, meth, c, d', MC, MS⟩ Q ⟨hz, hd', hx, hb, hml, hr, hlk, hown, hnm, htab, hW, hzs, hzk⟩ K hKK lv st h kc ks k
  intro H locs cells slots ls hl hR hS hc hs
  dsimp only at hb hml hr hlk hown hnm htab hd'
  unfold gi_vret at k
  split at k
  · exact W.widen (k := MC) (n := MS) (by omega) (by omega) (vx_ret (W.vret hx hb (hr.trans hr0) (fun t ht hW9 => ⟨⟨_, h, rfl, k, by rw [ht]; exact hR⟩, hS.F ht⟩) hS.2.2 hd))
  · exact k.elim
def gi_aret  : gOp := fun K Q pc lv st h kc ks => match st with
  | [.ref a] => Q (.inl (some (.ref a))) h
  | [.null] => Q (.inl (some .null)) h
  | _ => False
theorem gs_aret {rt : FieldType} (hd : decode cc pc = .ok (.areturn, 1)) (hr0 : ret = some rt) (hrt : (∃ n, rt = .object n) ∨ ∃ t, rt = .array t) : gSnd (own, cc, nL, ret, nm, tab, d) pc (gi_aret) := by
  rintro ⟨G, p, e, s, m, args, below, meth, c, d', MC, MS⟩ Q ⟨hz, hd', hx, hb, hml, hr, hlk, hown, hnm, htab, hW, hzs, hzk⟩ K hKK lv st h kc ks k
  intro H locs cells slots ls hl hR hS hc hs
  dsimp only at hb hml hr hlk hown hnm htab hd'
  unfold gi_aret at k
  split at k
  · exact W.widen (k := MC) (n := MS) (by omega) (by omega) (vx_ret (W.aret hx hb (hr.trans hr0) hrt (Or.inr ⟨_, rfl⟩) (fun t ht hW9 => ⟨⟨_, h, rfl, k, by rw [ht]; exact hR⟩, hS.F ht⟩) hS.2.2 hd))
  · exact W.widen (k := MC) (n := MS) (by omega) (by omega) (vx_ret (W.aret hx hb (hr.trans hr0) hrt (Or.inl rfl) (fun t ht hW9 => ⟨⟨_, h, rfl, k, by rw [ht]; exact hR⟩, hS.F ht⟩) hS.2.2 hd))
  · exact k.elim
def gi_tsw (lo : Int) (ts : List Nat) (dt : Nat) : gOp := fun K Q pc lv st h kc ks => match st with
  | .int x :: r => (x.toInt < lo ∨ lo + ts.length ≤ x.toInt → K dt lv r h kc ks) ∧ (∀ (j t : Nat), x.toInt = lo + j → ts[j]? = some t → K t lv r h kc ks)
  | _ => False
theorem gs_tsw {dflt lo hi : Int} {offs : Array Int} {len : Nat} {ts : List Nat} {dt : Nat} (hd : decode cc pc = .ok (.tableswitch dflt lo hi offs, len)) (hdt : (pc : Int) + dflt = (dt : Int)) (hhi : hi + 1 = lo + ts.length) (hts : ts.map (fun t : Nat => (t : Int)) = offs.toList.map (fun o => (pc : Int) + o)) : gSnd (own, cc, nL, ret, nm, tab, d) pc (gi_tsw lo ts dt) := by
  rintro ⟨G, p, e, s, m, args, below, meth, c, d', MC, MS⟩ Q ⟨hz, hd', hx, hb, hml, hr, hlk, hown, hnm, htab, hW, hzs, hzk⟩ K hKK lv st h kc ks k
  intro H locs cells slots ls hl hR hS hc hs
  dsimp only at hb hml hr hlk hown hnm htab hd'
  unfold gi_tsw at k
  split at k
  · rename_i x r
    by_cases q : x.toInt < lo ∨ lo + ts.length ≤ x.toInt
    · exact lv_tableOut hx hb hd (by omega) hdt (hKK _ _ _ _ _ _ (k.1 q) H locs cells slots ls hl hR hS hc hs)
    · obtain ⟨j, hj⟩ : ∃ j : Nat, x.toInt = lo + j := ⟨(x.toInt - lo).toNat, by omega⟩
      have hjl : j < ts.length := by omega
      have h1 : (offs.toList.map (fun o => (pc : Int) + o))[j]? = some ((ts[j] : Nat) : Int) := by
        rw [← hts, List.getElem?_map, List.getElem?_eq_getElem hjl]; rfl
      rw [List.getElem?_map] at h1
      cases ho : offs.toList[j]? with
      | none => rw [ho] at h1; cases h1
      | some o =>
        rw [ho] at h1
        have h2 : (pc : Int) + o = ((ts[j] : Nat) : Int) := Option.some.inj h1
        have h3 : (x.toInt - lo).toNat = j := by omega
        exact lv_tableIn hx hb hd (by omega) (by omega) (by rw [h3, ← Array.getElem?_toList]; exact ho) h2 (hKK _ _ _ _ _ _ (k.2 j _ hj (List.getElem?_eq_getElem hjl)) H locs cells slots ls hl hR hS hc hs)
  · exact k.elim
end GOPS
