def T_X3_init : gPT := fun av h Q => ∃ (a : Nat) (x y z : Value) (n : Int32), av = [.ref a, .int n] ∧ h a = some (oX 6 [x, y, z]) ∧ gHasEd h ∧ ∀ b c, b ≠ a → c ≠ a → b ≠ c → h b = none → h c = none → Q (.inl none) (gset (gset (gset h b (lX [])) c (lX [])) a (oX 6 [.int n, .ref b, .ref c]))
abbrev M_X3_init : gM := (RX3, cX3_init, 2, none, "<init>", [], 4)
def L_X3_init : List (Nat × gOp) := [(0, gi_ald 0 1), (1, gi_oinit), (4, gi_ald 0 1), (5, gi_ild 1 1), (6, gi_putf 6 0 .int), (9, gi_ald 0 1), (10, gi_new 1 2 3 [.int 0, .null, .int 0]), (13, gi_dup), (14, gi_callI 0 0 0 T_Jx4a65c_init_da8c8), (17, gi_putf 6 1 (.object "java/util/ArrayList")), (20, gi_ald 0 1), (21, gi_new 1 2 3 [.int 0, .null, .int 0]), (24, gi_dup), (25, gi_callI 0 0 0 T_Jx4a65c_init_da8c8), (28, gi_putf 6 2 (.object "java/util/ArrayList")), (31, gi_vret)]
def P_X3_init : Nat → gOp := gtab L_X3_init
theorem PS_X3_init : ∀ pc, gSnd M_X3_init pc (P_X3_init pc) := gtab_ok (
  List.forall_mem_cons.mpr ⟨gs_aload_n (show decode cX3_init 0 = .ok (.aload_n 0, 1) by decide +kernel) rfl,
  List.forall_mem_cons.mpr ⟨gs_oinit (show decode cX3_init 1 = .ok (.invokespecial 1, 3) by decide +kernel) (lw_in 494 (by decide +kernel)) (lw_in 79 (by decide +kernel)) (lw_in 80 (by decide +kernel)) (by decide),
  List.forall_mem_cons.mpr ⟨gs_aload_n (show decode cX3_init 4 = .ok (.aload_n 0, 1) by decide +kernel) rfl,
  List.forall_mem_cons.mpr ⟨gs_iload_n (show decode cX3_init 5 = .ok (.iload_n 1, 1) by decide +kernel) rfl,
  List.forall_mem_cons.mpr ⟨gs_putfF (ref := "Inglenook$Room") gKX3 (by decide) (show decode cX3_init 6 = .ok (.putfield 7, 3) by decide +kernel) (lw_in 497 (by decide +kernel)) (Or.inl rfl) rfl rfl rfl rfl,
  List.forall_mem_cons.mpr ⟨gs_aload_n (show decode cX3_init 9 = .ok (.aload_n 0, 1) by decide +kernel) rfl,
  List.forall_mem_cons.mpr ⟨gs_new gKJx4a65c (show decode cX3_init 10 = .ok (.new 13, 3) by decide +kernel) (lw_in 495 (by decide +kernel)) (lw_in 82 (by decide +kernel)) (lw_in 41 (by decide +kernel)) (by decide +kernel),
  List.forall_mem_cons.mpr ⟨gs_dup (show decode cX3_init 13 = .ok (.dup, 1) by decide +kernel),
  List.forall_mem_cons.mpr ⟨gs_callI sp_Jx4a65c_init_da8c8 rfl rfl (show decode cX3_init 14 = .ok (.invokespecial 15, 3) by decide +kernel) (by decide) (by decide) (lw_in 85 (by decide +kernel)) (lw_in 41 (by decide +kernel)) (lw_in 496 (by decide +kernel)) (lw_in 84 (by decide +kernel)) (by decide +kernel),
  List.forall_mem_cons.mpr ⟨gs_putfF (ref := "Inglenook$Room") gKX3 (by decide) (show decode cX3_init 17 = .ok (.putfield 16, 3) by decide +kernel) (lw_in 499 (by decide +kernel)) (Or.inl rfl) rfl rfl rfl rfl,
  List.forall_mem_cons.mpr ⟨gs_aload_n (show decode cX3_init 20 = .ok (.aload_n 0, 1) by decide +kernel) rfl,
  List.forall_mem_cons.mpr ⟨gs_new gKJx4a65c (show decode cX3_init 21 = .ok (.new 13, 3) by decide +kernel) (lw_in 495 (by decide +kernel)) (lw_in 82 (by decide +kernel)) (lw_in 41 (by decide +kernel)) (by decide +kernel),
  List.forall_mem_cons.mpr ⟨gs_dup (show decode cX3_init 24 = .ok (.dup, 1) by decide +kernel),
  List.forall_mem_cons.mpr ⟨gs_callI sp_Jx4a65c_init_da8c8 rfl rfl (show decode cX3_init 25 = .ok (.invokespecial 15, 3) by decide +kernel) (by decide) (by decide) (lw_in 85 (by decide +kernel)) (lw_in 41 (by decide +kernel)) (lw_in 496 (by decide +kernel)) (lw_in 84 (by decide +kernel)) (by decide +kernel),
  List.forall_mem_cons.mpr ⟨gs_putfF (ref := "Inglenook$Room") gKX3 (by decide) (show decode cX3_init 28 = .ok (.putfield 20, 3) by decide +kernel) (lw_in 501 (by decide +kernel)) (Or.inl rfl) rfl rfl rfl rfl,
  List.forall_mem_cons.mpr ⟨gs_vret (show decode cX3_init 31 = .ok (.return_, 1) by decide +kernel) rfl, fun _ h => absurd h List.not_mem_nil⟩⟩⟩⟩⟩⟩⟩⟩⟩⟩⟩⟩⟩⟩⟩⟩)
def S_X3_init : Nat → Option (List Bool) := fun pc => none
theorem PE_X3_init (K : gK) (Q : gQ) (n : Nat) (lv : gL) (st : List Value) (h : gH) (kc ks : Nat) : grun P_X3_init S_X3_init K Q (n + 1) 0 lv st h kc ks = gi_ald 0 1 (gnx P_X3_init S_X3_init K Q n) Q 0 lv st h kc ks ∧ grun P_X3_init S_X3_init K Q (n + 1) 1 lv st h kc ks = gi_oinit (gnx P_X3_init S_X3_init K Q n) Q 1 lv st h kc ks ∧ grun P_X3_init S_X3_init K Q (n + 1) 4 lv st h kc ks = gi_ald 0 1 (gnx P_X3_init S_X3_init K Q n) Q 4 lv st h kc ks ∧ grun P_X3_init S_X3_init K Q (n + 1) 5 lv st h kc ks = gi_ild 1 1 (gnx P_X3_init S_X3_init K Q n) Q 5 lv st h kc ks ∧ grun P_X3_init S_X3_init K Q (n + 1) 6 lv st h kc ks = gi_putf 6 0 .int (gnx P_X3_init S_X3_init K Q n) Q 6 lv st h kc ks ∧ grun P_X3_init S_X3_init K Q (n + 1) 9 lv st h kc ks = gi_ald 0 1 (gnx P_X3_init S_X3_init K Q n) Q 9 lv st h kc ks ∧ grun P_X3_init S_X3_init K Q (n + 1) 10 lv st h kc ks = gi_new 1 2 3 [.int 0, .null, .int 0] (gnx P_X3_init S_X3_init K Q n) Q 10 lv st h kc ks ∧ grun P_X3_init S_X3_init K Q (n + 1) 13 lv st h kc ks = gi_dup (gnx P_X3_init S_X3_init K Q n) Q 13 lv st h kc ks ∧ grun P_X3_init S_X3_init K Q (n + 1) 14 lv st h kc ks = gi_callI 0 0 0 T_Jx4a65c_init_da8c8 (gnx P_X3_init S_X3_init K Q n) Q 14 lv st h kc ks ∧ grun P_X3_init S_X3_init K Q (n + 1) 17 lv st h kc ks = gi_putf 6 1 (.object "java/util/ArrayList") (gnx P_X3_init S_X3_init K Q n) Q 17 lv st h kc ks ∧ grun P_X3_init S_X3_init K Q (n + 1) 20 lv st h kc ks = gi_ald 0 1 (gnx P_X3_init S_X3_init K Q n) Q 20 lv st h kc ks ∧ grun P_X3_init S_X3_init K Q (n + 1) 21 lv st h kc ks = gi_new 1 2 3 [.int 0, .null, .int 0] (gnx P_X3_init S_X3_init K Q n) Q 21 lv st h kc ks ∧ grun P_X3_init S_X3_init K Q (n + 1) 24 lv st h kc ks = gi_dup (gnx P_X3_init S_X3_init K Q n) Q 24 lv st h kc ks ∧ grun P_X3_init S_X3_init K Q (n + 1) 25 lv st h kc ks = gi_callI 0 0 0 T_Jx4a65c_init_da8c8 (gnx P_X3_init S_X3_init K Q n) Q 25 lv st h kc ks ∧ grun P_X3_init S_X3_init K Q (n + 1) 28 lv st h kc ks = gi_putf 6 2 (.object "java/util/ArrayList") (gnx P_X3_init S_X3_init K Q n) Q 28 lv st h kc ks ∧ grun P_X3_init S_X3_init K Q (n + 1) 31 lv st h kc ks = gi_vret (gnx P_X3_init S_X3_init K Q n) Q 31 lv st h kc ks := ⟨rfl, rfl, rfl, rfl, rfl, rfl, rfl, rfl, rfl, rfl, rfl, rfl, rfl, rfl, rfl, rfl⟩
theorem PN_X3_init (K : gK) (Q : gQ) (n : Nat) (lv : gL) (st : List Value) (h : gH) (kc ks : Nat) : gnx P_X3_init S_X3_init K Q n 0 lv st h kc ks = grun P_X3_init S_X3_init K Q n 0 lv st h kc ks ∧ gnx P_X3_init S_X3_init K Q n 1 lv st h kc ks = grun P_X3_init S_X3_init K Q n 1 lv st h kc ks ∧ gnx P_X3_init S_X3_init K Q n 4 lv st h kc ks = grun P_X3_init S_X3_init K Q n 4 lv st h kc ks ∧ gnx P_X3_init S_X3_init K Q n 5 lv st h kc ks = grun P_X3_init S_X3_init K Q n 5 lv st h kc ks ∧ gnx P_X3_init S_X3_init K Q n 6 lv st h kc ks = grun P_X3_init S_X3_init K Q n 6 lv st h kc ks ∧ gnx P_X3_init S_X3_init K Q n 9 lv st h kc ks = grun P_X3_init S_X3_init K Q n 9 lv st h kc ks ∧ gnx P_X3_init S_X3_init K Q n 10 lv st h kc ks = grun P_X3_init S_X3_init K Q n 10 lv st h kc ks ∧ gnx P_X3_init S_X3_init K Q n 13 lv st h kc ks = grun P_X3_init S_X3_init K Q n 13 lv st h kc ks ∧ gnx P_X3_init S_X3_init K Q n 14 lv st h kc ks = grun P_X3_init S_X3_init K Q n 14 lv st h kc ks ∧ gnx P_X3_init S_X3_init K Q n 17 lv st h kc ks = grun P_X3_init S_X3_init K Q n 17 lv st h kc ks ∧ gnx P_X3_init S_X3_init K Q n 20 lv st h kc ks = grun P_X3_init S_X3_init K Q n 20 lv st h kc ks ∧ gnx P_X3_init S_X3_init K Q n 21 lv st h kc ks = grun P_X3_init S_X3_init K Q n 21 lv st h kc ks ∧ gnx P_X3_init S_X3_init K Q n 24 lv st h kc ks = grun P_X3_init S_X3_init K Q n 24 lv st h kc ks ∧ gnx P_X3_init S_X3_init K Q n 25 lv st h kc ks = grun P_X3_init S_X3_init K Q n 25 lv st h kc ks ∧ gnx P_X3_init S_X3_init K Q n 28 lv st h kc ks = grun P_X3_init S_X3_init K Q n 28 lv st h kc ks ∧ gnx P_X3_init S_X3_init K Q n 31 lv st h kc ks = grun P_X3_init S_X3_init K Q n 31 lv st h kc ks := ⟨rfl, rfl, rfl, rfl, rfl, rfl, rfl, rfl, rfl, rfl, rfl, rfl, rfl, rfl, rfl, rfl⟩
theorem go_X3_init {X : gX} {Q : gQ} (hC : gC M_X3_init.1 M_X3_init.2.1 M_X3_init.2.2.1 M_X3_init.2.2.2.1 M_X3_init.2.2.2.2.1 M_X3_init.2.2.2.2.2.1 M_X3_init.2.2.2.2.2.2 X) (n : Nat) {pc : Nat} {lv : gL} {st : List Value} {h : gH} {kc ks : Nat} (k : grun P_X3_init S_X3_init (gd 2 X Q) Q n pc lv st h kc ks) : gd 2 X Q pc lv st h kc ks := grun_ok PS_X3_init hC S_X3_init n pc lv st h kc ks k
theorem sp_X3_init : gSp 4 2 20 yX3_init [.code yX3_init cX3_init 2 none] T_X3_init := by
  refine gEntry (by decide +kernel) (fun av h Q hT => ?_) (fun X Q hC av h hT => ?_)
  · obtain ⟨a, x, y, z, n, rfl, -⟩ := hT
    exact Nat.le_of_ble_eq_true rfl
  · obtain ⟨a, x, y, z, n, rfl, hq, he, k⟩ := hT
    refine go_X3_init hC 60 (lv := [some (.ref a), some (.int n)]) ?_
    have e1 : gHasEd (gset h a (true, 1, .inr (.inl (6, [.int n, y, z])))) := he.set hq
    simp (disch := omega) only [PE_X3_init, PN_X3_init, gi_ald, gi_callI, gi_dup, gi_ild, gi_new, gi_oinit, gi_putf, gi_vret, gi_call, gRcv, List.getElem?_cons_zero, List.getElem?_cons_succ, Nat.reduceAdd, Nat.reduceSub, Nat.reduceLT, Nat.reduceLeDiff, Nat.reduceEqDiff, List.length_cons, List.length_nil, List.set_cons_zero, List.set_cons_succ, gst1, gst2, gcl, Value.category, reduceIte, List.drop_succ_cons, List.drop_zero, List.drop_nil, List.take_succ_cons, List.take_zero, List.take_nil, List.reverse_cons, List.reverse_nil, List.nil_append, List.cons_append, List.map_cons, List.map_nil, List.sum_cons, List.sum_nil, gmask, gcont, Option.toList, true_and, and_true, okf_int, okf_float, okf_ref, okf_null, okf_arr, okf_bool, okf_true, okf_false, Nat.zero_le, Nat.sub_zero, grv, gset_gset, gset_d2, gset_d3, gset_d4, nI_add, nsub, pk_mul, nlt, nle, neq, nlt0, ngt0, nle0, nge0, neq0, npred, nneg1, ncl, vin, vnarc, narc, nar_b0, nar_b1, not_true_eq_false, not_false_eq_true, false_implies, true_implies, implies_true, ite_true, ite_false, Bool.false_eq_true, mk_shl, mk_or, mk_and, hq, gset_self, okf_int]
    intro b hb
    have n1 : b ≠ a := fun z => by rw [z, gset_self] at hb; cases hb
    have e2 : gHasEd (gset (gset h a (true, 1, .inr (.inl (6, [.int n, y, z])))) b (true, 1, .inr (.inl (2, [.int 0, .null, .int 0])))) := e1.new hb
    rw [gset_ne n1] at hb
    refine ⟨b, 1, .int 0, .null, rfl, gset_self _ _ _, e2, ?_⟩
    simp (disch := omega) only [PE_X3_init, PN_X3_init, gi_ald, gi_callI, gi_dup, gi_ild, gi_new, gi_oinit, gi_putf, gi_vret, gi_call, gRcv, List.getElem?_cons_zero, List.getElem?_cons_succ, Nat.reduceAdd, Nat.reduceSub, Nat.reduceLT, Nat.reduceLeDiff, Nat.reduceEqDiff, List.length_cons, List.length_nil, List.set_cons_zero, List.set_cons_succ, gst1, gst2, gcl, Value.category, reduceIte, List.drop_succ_cons, List.drop_zero, List.drop_nil, List.take_succ_cons, List.take_zero, List.take_nil, List.reverse_cons, List.reverse_nil, List.nil_append, List.cons_append, List.map_cons, List.map_nil, List.sum_cons, List.sum_nil, gmask, gcont, Option.toList, true_and, and_true, okf_int, okf_float, okf_ref, okf_null, okf_arr, okf_bool, okf_true, okf_false, Nat.zero_le, Nat.sub_zero, grv, gset_gset, gset_d2, gset_d3, gset_d4, nI_add, nsub, pk_mul, nlt, nle, neq, nlt0, ngt0, nle0, nge0, neq0, npred, nneg1, ncl, vin, vnarc, narc, nar_b0, nar_b1, not_true_eq_false, not_false_eq_true, false_implies, true_implies, implies_true, ite_true, ite_false, Bool.false_eq_true, mk_shl, mk_or, mk_and, hq, gset_self, gset_ne (Ne.symm n1), okf_ref]
    intro c hc
    have n2 : c ≠ a := fun z => by rw [z, gset_self] at hc; cases hc
    rw [gset_ne n2] at hc
    have n3 : c ≠ b := fun z => by rw [z, gset_self] at hc; cases hc
    rw [gset_ne n3] at hc
    refine ⟨c, 1, .int 0, .null, rfl, gset_self _ _ _, ((he.new hb).set (t := 1) (e0 := .inr (.inl (6, [x, y, z]))) (by rw [gset_ne (Ne.symm n1)]; exact hq)).new (by rw [gset_ne n2, gset_ne n3]; exact hc), ?_⟩
    simp (disch := omega) only [PE_X3_init, PN_X3_init, gi_ald, gi_callI, gi_dup, gi_ild, gi_new, gi_oinit, gi_putf, gi_vret, gi_call, gRcv, List.getElem?_cons_zero, List.getElem?_cons_succ, Nat.reduceAdd, Nat.reduceSub, Nat.reduceLT, Nat.reduceLeDiff, Nat.reduceEqDiff, List.length_cons, List.length_nil, List.set_cons_zero, List.set_cons_succ, gst1, gst2, gcl, Value.category, reduceIte, List.drop_succ_cons, List.drop_zero, List.drop_nil, List.take_succ_cons, List.take_zero, List.take_nil, List.reverse_cons, List.reverse_nil, List.nil_append, List.cons_append, List.map_cons, List.map_nil, List.sum_cons, List.sum_nil, gmask, gcont, Option.toList, true_and, and_true, okf_int, okf_float, okf_ref, okf_null, okf_arr, okf_bool, okf_true, okf_false, Nat.zero_le, Nat.sub_zero, grv, gset_gset, gset_d2, gset_d3, gset_d4, nI_add, nsub, pk_mul, nlt, nle, neq, nlt0, ngt0, nle0, nge0, neq0, npred, nneg1, ncl, vin, vnarc, narc, nar_b0, nar_b1, not_true_eq_false, not_false_eq_true, false_implies, true_implies, implies_true, ite_true, ite_false, Bool.false_eq_true, mk_shl, mk_or, mk_and, hq, gset_self, gset_ne (Ne.symm n1), gset_ne (Ne.symm n2), gset_ne n2, gset_ne n3, okf_ref]
    exact k b c n1 n2 (Ne.symm n3) hb hc
theorem holdsX.off {h : gH} {x : gS} {ad : Nat → Nat → Nat} (hh : holdsX h x ad) {p : Nat} {e0 : gA ⊕ ((Nat × List Value) ⊕ List Nat)} {e : gE} (hp : h p = some (true, 1, e0)) (hn : ∀ k i, liveX x k i → ad k i ≠ p) : holdsX (gset h p e) x ad ∧ gfr h (gset h p e) := by
  have hf : gfr h (gset h p e) := gfr.set hp
  refine ⟨⟨fun k i hl => ?_, hh.2.1, hf.ed hh.2.2.1, hf.k hh.2.2.2⟩, hf⟩
  obtain ⟨e1, h1, h2⟩ := hh.1 k i hl
  exact ⟨e1, by rw [gset_ne (hn k i hl)]; exact h1, h2⟩
def m_open (x : gS) (i : Nat) : gS := s_nr (g_nr x + 1) (m_join x i (g_nr x))
def adO (ad : Nat → Nat → Nat) (n i a b c d : Nat) : Nat → Nat → Nat := adU (adU (adU (adU ad 12 n a) 13 n b) 14 n c) 15 (6 * n + i) d
theorem adO_of {ad : Nat → Nat → Nat} {n i0 a b c d k i : Nat} (h : ¬ ((k = 12 ∨ k = 13 ∨ k = 14) ∧ i = n)) (h2 : ¬ (k = 15 ∧ i = 6 * n + i0)) : adO ad n i0 a b c d k i = ad k i := by
  unfold adO
  rw [adU_ne h2, adU_ne (fun z => h ⟨Or.inr (Or.inr z.1), z.2⟩), adU_ne (fun z => h ⟨Or.inr (Or.inl z.1), z.2⟩), adU_ne (fun z => h ⟨Or.inl z.1, z.2⟩)]
theorem adO_12 {ad : Nat → Nat → Nat} {n i a b c d : Nat} : adO ad n i a b c d 12 n = a := by
  unfold adO
  rw [adU_ne (by omega), adU_ne (by omega), adU_ne (by omega), adU_at]
theorem adO_13 {ad : Nat → Nat → Nat} {n i a b c d : Nat} : adO ad n i a b c d 13 n = b := by
  unfold adO
  rw [adU_ne (by omega), adU_ne (by omega), adU_at]
theorem adO_14 {ad : Nat → Nat → Nat} {n i a b c d : Nat} : adO ad n i a b c d 14 n = c := by
  unfold adO
  rw [adU_ne (by omega), adU_at]
theorem adO_15 {ad : Nat → Nat → Nat} {n i a b c d : Nat} : adO ad n i a b c d 15 (6 * n + i) = d := by
  unfold adO
  rw [adU_at]
theorem l_open {x : gS} {i0 k i : Nat} (h0 : g_mem x (g_nr x) = []) (h : liveX (m_open x i0) k i) : liveX x k i ∨ ((k = 12 ∨ k = 13 ∨ k = 14) ∧ i = g_nr x) ∨ (k = 15 ∧ i = 6 * g_nr x + i0) := by
  unfold m_open at h
  unfold liveX at h ⊢
  simp only [e_nr, em_join] at h
  split at h
  case h_13 => exact (Nat.lt_succ_iff_lt_or_eq.mp h).imp id (fun z => Or.inl ⟨Or.inl rfl, z⟩)
  case h_14 => exact (Nat.lt_succ_iff_lt_or_eq.mp h).imp id (fun z => Or.inl ⟨Or.inr (Or.inl rfl), z⟩)
  case h_15 => exact (Nat.lt_succ_iff_lt_or_eq.mp h).imp id (fun z => Or.inl ⟨Or.inr (Or.inr rfl), z⟩)
  case h_16 =>
    obtain ⟨h1, h2⟩ := h
    by_cases a : i / 6 = g_nr x
    · rw [a, gup_at, h0, List.nil_append] at h2
      have z := List.mem_singleton.mp h2
      exact Or.inr (Or.inr ⟨rfl, by omega⟩)
    · rw [gup_of a] at h2
      exact Or.inl ⟨by omega, h2⟩
  all_goals exact Or.inl h
theorem c_open {x : gS} {ad : Nat → Nat → Nat} {i0 k i : Nat} {e : gE} (hl : liveX x k i) (hn : k ≠ 2) (hc : cellX x ad k i e) : cellX (m_open x i0) ad k i e := by
  unfold m_open
  unfold cellX at hc ⊢
  simp only [e_nr, em_join]
  split at hc
  case h_3 => exact absurd rfl hn
  case h_14 =>
    rw [gup_of (Nat.ne_of_lt hl)]
    exact hc
  case h_16 =>
    have hl2 : i / 6 < g_nr x ∧ i % 6 ∈ g_mem x (i / 6) := hl
    rw [gup_of (Nat.ne_of_lt hl2.1)]
    exact hc
  all_goals exact hc
theorem holdsX.opn {h : gH} {x : gS} {ad : Nat → Nat → Nat} (hh : holdsX h x ad) (hi : iX x) {i : Nat} (hiu : i < g_nu x) (h0 : g_mem x (g_nr x) = [] ∧ g_rms x (g_nr x) = []) {a b c d : Nat} (ha : h a = none) (hb : h b = none) (hc : h c = none) (hd : h d = none) (n1 : b ≠ a) (n2 : c ≠ a) (n3 : d ≠ a) (n4 : b ≠ c) (n5 : b ≠ d) (n6 : c ≠ d) (h1 : gH) (hh1 : h1 = gset (gset (gset (gset (gset (gset h b (lX [])) c (lX [])) a (oX 6 [.int (nI (g_nr x)), .ref b, .ref c])) d (oX 11 [.ref (ad 9 i), .int (nI 0)])) b (lX [d])) (ad 2 0) (lX ((List.range (g_nr x)).map (ad 12) ++ [a]))) : holdsX h1 (m_open x i) (adO ad (g_nr x) i a b c d) ∧ gfr h h1 := by
  subst hh1
  have h6 : i < 6 := Nat.lt_of_lt_of_le hiu hi.1.1
  have hfr : ∀ p, h p = none → ∀ k2 i2, liveX x k2 i2 → ad k2 i2 ≠ p := fun p hp k2 i2 hl z => hh.nn hl (by rw [z]; exact hp)
  obtain ⟨f1, g1⟩ := hh.fresh (e := lX []) hb
  obtain ⟨f2, g2⟩ := f1.fresh (e := lX []) (q := c) (by rw [gset_ne (Ne.symm n4)]; exact hc)
  obtain ⟨f3, g3⟩ := f2.fresh (e := oX 6 [.int (nI (g_nr x)), .ref b, .ref c]) (q := a) (by rw [gset_ne (Ne.symm n2), gset_ne (Ne.symm n1)]; exact ha)
  obtain ⟨f4, g4⟩ := f3.fresh (e := oX 11 [.ref (ad 9 i), .int (nI 0)]) (q := d) (by rw [gset_ne n3, gset_ne (Ne.symm n6), gset_ne (Ne.symm n5)]; exact hd)
  obtain ⟨f5, g5⟩ := f4.off (p := b) (e := lX [d]) (e0 := .inr (.inr [])) (by rw [gset_ne n5, gset_ne n1, gset_ne n4, gset_self]) (hfr b hb)
  have hnl : ∀ k, (k = 12 ∨ k = 13 ∨ k = 14) → ¬ liveX x k (g_nr x) := fun k hk z => by
    rcases hk with rfl | rfl | rfl <;> exact absurd (show g_nr x < g_nr x from z) (Nat.lt_irrefl _)
  have hnm : ¬ liveX x 15 (6 * g_nr x + i) := fun z => by
    have z2 : (6 * g_nr x + i) / 6 < g_nr x ∧ (6 * g_nr x + i) % 6 ∈ g_mem x ((6 * g_nr x + i) / 6) := z
    omega
  have hA : ∀ k n, liveX x k n → adO ad (g_nr x) i a b c d k n = ad k n := fun k n hl => adO_of (fun z => hnl k z.1 (by rw [← z.2]; exact hl)) (fun z => by
    obtain ⟨rfl, rfl⟩ := z
    exact hnm hl)
  suffices hx : _ ∧ _ from ⟨hx.1, g1.trans (g2.trans (g3.trans (g4.trans (g5.trans hx.2))))⟩
  refine holdsX.ext f5 2 0 rfl (fun k i2 hl => ?_) (fun k n k2 n2 hl hl2 m1 m2 z => ?_) ?_ (fun k n e hn hl hc => c_open hl ?_ (cellX_ad hi hA hl hc))
  · rcases l_open h0.1 hl with hl | ⟨hk, rfl⟩ | ⟨rfl, rfl⟩
    · exact Or.inl ⟨hl, hA k i2 hl⟩
    · refine Or.inr ⟨hnl k hk, ?_⟩
      rcases hk with rfl | rfl | rfl
      · rw [adO_12]
        refine ⟨⟨_, by rw [gset_ne (Ne.symm n1), gset_ne (Ne.symm n3), gset_self], ?_⟩, hfr a ha⟩
        unfold m_open cellX
        simp only [adO_13, adO_14]
      · rw [adO_13]
        refine ⟨⟨_, gset_self _ _ _, ?_⟩, hfr b hb⟩
        show lX [d] = lX ((g_mem (m_open x i) (g_nr x)).map (adM (adO ad (g_nr x) i a b c d) (g_nr x)))
        have e1 : g_mem (m_open x i) (g_nr x) = [i] := by
          unfold m_open
          simp only [e_nr, em_join, gup_at, h0.1, List.nil_append]
        have e2 : adM (adO ad (g_nr x) i a b c d) (g_nr x) i = d := adO_15
        rw [e1, List.map_singleton, e2]
      · rw [adO_14]
        refine ⟨⟨_, by rw [gset_ne (Ne.symm n4), gset_ne n6, gset_ne n2, gset_self], ?_⟩, hfr c hc⟩
        unfold m_open cellX
        simp only [e_nr, em_join, h0.2, List.map_nil]
    · rw [adO_15]
      refine Or.inr ⟨hnm, ⟨_, by rw [gset_ne (Ne.symm n5), gset_self], ?_⟩, hfr d hd⟩
      show oX 11 [.ref (ad 9 i), .int (nI 0)] = oX 11 [.ref (adO ad (g_nr x) i a b c d 9 ((6 * g_nr x + i) % 6)), .int (nI (g_mk (m_open x i) ((6 * g_nr x + i) / 6) ((6 * g_nr x + i) % 6)))]
      rw [(dv6 h6).1, (dv6 h6).2, adO_of (by omega) (by omega)]
      unfold m_open
      simp only [e_nr, em_join, gup_at, h0.2, List.length_nil]
  · have a1 := (l_open h0.1 hl).resolve_left m1
    have b1 := (l_open h0.1 hl2).resolve_left m2
    rcases a1 with ⟨a1, rfl⟩ | ⟨rfl, rfl⟩
    · rcases b1 with ⟨b1, rfl⟩ | ⟨rfl, rfl⟩
      · refine ⟨?_, rfl⟩
        rcases a1 with rfl | rfl | rfl <;> rcases b1 with rfl | rfl | rfl <;> simp only [adO_12, adO_13, adO_14] at z <;> first | rfl | omega
      · rcases a1 with rfl | rfl | rfl <;> simp only [adO_12, adO_13, adO_14, adO_15] at z <;> omega
    · rcases b1 with ⟨b1, rfl⟩ | ⟨rfl, rfl⟩
      · rcases b1 with rfl | rfl | rfl <;> simp only [adO_12, adO_13, adO_14, adO_15] at z <;> omega
      · exact ⟨rfl, rfl⟩
  · show _ = _
    unfold m_open
    simp only [e_nr, em_join]
    rw [List.range_succ, List.map_append, List.map_singleton, adO_12, show (List.range (g_nr x)).map (adO ad (g_nr x) i a b c d 12) = (List.range (g_nr x)).map (ad 12) from List.map_congr_left (fun j hj => hA 12 j (List.mem_range.mp hj))]
  · rcases hn with hn | hn
    · exact hn
    · intro z
      subst z
      exact hn hl
