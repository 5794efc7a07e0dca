/-! Room, Message -/
theorem e_size {h : gH} {a t : Nat} {us : List Nat} (hq : h a = some (true, t, .inr (.inr us))) (he : gHasEd h) (Q : gQ) : T_Jx4a65c_size_8abf5 [.ref a] h Q = Q (.inl (some (.int (nI us.length)))) h := by
  refine propext ⟨?_, fun k => ⟨a, t, us, rfl, hq, he, k⟩⟩
  rintro ⟨a1, t1, us1, h1, h2, -, k⟩
  cases h1
  cases hq.symm.trans h2
  exact k
theorem e_get {h : gH} {a t u i : Nat} {us : List Nat} (hq : h a = some (true, t, .inr (.inr us))) (he : gHasEd h) (hl : us.length < 2147483648) (hu : us[i]? = some u) (Q : gQ) : T_Jx4a65c_get_915e3 [.ref a, .int (nI i)] h Q = Q (.inl (some (.ref u))) h := by
  refine propext ⟨?_, fun k => ⟨a, t, i, u, us, rfl, hq, he, hl, hu, k⟩⟩
  rintro ⟨a1, t1, i1, u1, us1, h1, h2, -, h4, h5, k⟩
  injection h1 with h6 h7
  cases h6
  injection h7 with h8 h9
  injection h8 with h8
  cases hq.symm.trans h2
  have h10 := (List.getElem?_eq_some_iff.mp hu).1
  have h11 := (List.getElem?_eq_some_iff.mp h5).1
  have h12 : i = i1 := (nI_eq (by omega) (by omega)).mp h8
  subst h12
  cases hu.symm.trans h5
  exact k
/-- the first place of a member -/
theorem fstix {us : List Nat} {u : Nat} (h : u ∈ us) : ∃ j : Nat, us[j]? = some u ∧ ∀ i : Nat, i < j → us[i]? ≠ some u := by
  obtain ⟨j, h1, h2⟩ := pk_least (fun j : Nat => us[j]? = some u) (List.getElem?_of_mem h)
  exact ⟨j, h1, h2⟩
theorem fstix_eq {us : List Nat} {u i j : Nat} (h1 : us[j]? = some u) (h2 : ∀ i : Nat, i < j → us[i]? ≠ some u) (h3 : us[i]? = some u) (h4 : ∀ j : Nat, j < i → us[j]? ≠ some u) : i = j := by
  rcases Nat.lt_trichotomy i j with h | h | h
  · exact absurd h3 (h2 i h)
  · exact h
  · exact absurd h1 (h4 j h)
theorem e_add {h : gH} {a t u : Nat} {us : List Nat} (hq : h a = some (true, t, .inr (.inr us))) (hl : us.length < 600) (hu : gObj h u) (hy : ∀ y ∈ us, gObj h y) (he : gHasEd h) (Q : gQ) : T_Jx4a65c_add_9ea2d [.ref a, .ref u] h Q = Q (.inl (some (.int (nI 1)))) (gset h a (true, t, .inr (.inr (us ++ [u])))) := by
  refine propext ⟨?_, fun k => ⟨a, t, u, us, rfl, hq, hl, hu, hy, he, k⟩⟩
  rintro ⟨a1, t1, u1, us1, h1, h2, -, -, -, -, k⟩
  cases h1
  cases hq.symm.trans h2
  exact k
theorem e_rem {h : gH} {a t u i : Nat} {us : List Nat} (hq : h a = some (true, t, .inr (.inr us))) (hl : us.length < 600) (hu : us[i]? = some u) (hy : ∀ y ∈ us, gObj h y) (he : gHasEd h) (Q : gQ) : T_Jx4a65c_remove_915e3 [.ref a, .int (nI i)] h Q = Q (.inl (some (.ref u))) (gset h a (true, t, .inr (.inr (us.eraseIdx i)))) := by
  refine propext ⟨?_, fun k => ⟨a, t, i, u, us, rfl, hq, hl, hu, hy, he, k⟩⟩
  rintro ⟨a1, t1, i1, u1, us1, h1, h2, h3, h5, -, -, k⟩
  injection h1 with h6 h7
  cases h6
  injection h7 with h8 h9
  injection h8 with h8
  cases hq.symm.trans h2
  have h10 := (List.getElem?_eq_some_iff.mp hu).1
  have h11 := (List.getElem?_eq_some_iff.mp h5).1
  have h12 : i = i1 := (nI_eq (by omega) (by omega)).mp h8
  subst h12
  cases hu.symm.trans h5
  exact k
theorem gHasEd.set {h : gH} {p t : Nat} {e0 : gA ⊕ ((Nat × List Value) ⊕ List Nat)} {e : gE} (he : gHasEd h) (hp : h p = some (true, t, e0)) : gHasEd (gset h p e) := by
  obtain ⟨q, x, hq⟩ := he
  exact ⟨q, x, by rw [gset_ne (fun z => by rw [z, hp] at hq; cases hq)]; exact hq⟩
theorem gHasEd.new {h : gH} {p : Nat} {e : gE} (he : gHasEd h) (hp : h p = none) : gHasEd (gset h p e) := by
  obtain ⟨q, x, hq⟩ := he
  exact ⟨q, x, by rw [gset_ne (fun z => by rw [z, hp] at hq; cases hq)]; exact hq⟩
def T_X3_admit : gPT := fun av h Q => ∃ (a u m1 m2 : Nat) (us ms : List Nat) (x : Value), av = [.ref a, .ref u] ∧ h a = some (oX 6 [x, .ref m1, .ref m2]) ∧ h m1 = some (lX us) ∧ h m2 = some (lX ms) ∧ us.length ≤ 60 ∧ ms.length ≤ 60 ∧ (∀ y ∈ us, gObj h y) ∧ gHasEd h ∧ ∀ q, h q = none → Q (.inl none) (gset (gset h q (oX 11 [.ref u, .int (nI ms.length)])) m1 (lX (us ++ [q])))
abbrev M_X3_admit : gM := (RX3, cX3_admit, 2, none, nmX3_admit, [], 9)
def L_X3_admit : List (Nat × gOp) := [(0, gi_ald 0 1), (1, gi_getf 6 1), (4, gi_new 1 11 2 [.null, .int 0]), (7, gi_dup), (8, gi_ald 1 1), (9, gi_ald 0 1), (10, gi_getf 6 2), (13, gi_callV 2 0 0 0 T_Jx4a65c_size_8abf5), (16, gi_callI 2 0 0 T_X8_init), (19, gi_callV 2 1 1 1000 T_Jx4a65c_add_9ea2d), (22, gi_pop), (23, gi_vret)]
def P_X3_admit : Nat → gOp := gtab L_X3_admit
theorem PS_X3_admit : ∀ pc, gSnd M_X3_admit pc (P_X3_admit pc) := gtab_ok (
  List.forall_mem_cons.mpr ⟨gs_aload_n (show decode cX3_admit 0 = .ok (.aload_n 0, 1) by decide +kernel) rfl,
  List.forall_mem_cons.mpr ⟨gs_getf (ref := "Inglenook$Room") gKX3 (by decide) (show decode cX3_admit 1 = .ok (.getfield 16, 3) by decide +kernel) (lw_in 499 (by decide +kernel)) (Or.inl rfl),
  List.forall_mem_cons.mpr ⟨gs_new gKX8 (show decode cX3_admit 4 = .ok (.new 31, 3) by decide +kernel) (lw_in 514 (by decide +kernel)) (lw_in 515 (by decide +kernel)) (lw_in 60 (by decide +kernel)) (by decide +kernel),
  List.forall_mem_cons.mpr ⟨gs_dup (show decode cX3_admit 7 = .ok (.dup, 1) by decide +kernel),
  List.forall_mem_cons.mpr ⟨gs_aload_n (show decode cX3_admit 8 = .ok (.aload_n 1, 1) by decide +kernel) rfl,
  List.forall_mem_cons.mpr ⟨gs_aload_n (show decode cX3_admit 9 = .ok (.aload_n 0, 1) by decide +kernel) rfl,
  List.forall_mem_cons.mpr ⟨gs_getf (ref := "Inglenook$Room") gKX3 (by decide) (show decode cX3_admit 10 = .ok (.getfield 20, 3) by decide +kernel) (lw_in 501 (by decide +kernel)) (Or.inl rfl),
  List.forall_mem_cons.mpr ⟨gs_callV gKJx4a65c sp_Jx4a65c_size_8abf5 rfl (show decode cX3_admit 13 = .ok (.invokevirtual 23, 3) by decide +kernel) (by decide) (by decide) (lw_in 166 (by decide +kernel)) (lw_in 41 (by decide +kernel)) (lw_in 516 (by decide +kernel)) (lw_in 164 (by decide +kernel)) (lw_in 165 (by decide +kernel)) (by decide +kernel),
  List.forall_mem_cons.mpr ⟨gs_callI sp_X8_init rfl rfl (show decode cX3_admit 16 = .ok (.invokespecial 41, 3) by decide +kernel) (by decide) (by decide) (lw_in 519 (by decide +kernel)) (lw_in 60 (by decide +kernel)) (lw_in 517 (by decide +kernel)) (lw_in 518 (by decide +kernel)) (by decide +kernel),
  List.forall_mem_cons.mpr ⟨gs_callV gKJx4a65c sp_Jx4a65c_add_9ea2d rfl (show decode cX3_admit 19 = .ok (.invokevirtual 44, 3) by decide +kernel) (by decide) (by decide) (lw_in 305 (by decide +kernel)) (lw_in 41 (by decide +kernel)) (lw_in 532 (by decide +kernel)) (lw_in 303 (by decide +kernel)) (lw_in 304 (by decide +kernel)) (by decide +kernel),
  List.forall_mem_cons.mpr ⟨gs_pop (show decode cX3_admit 22 = .ok (.pop, 1) by decide +kernel),
  List.forall_mem_cons.mpr ⟨gs_vret (show decode cX3_admit 23 = .ok (.return_, 1) by decide +kernel) rfl, fun _ h => absurd h List.not_mem_nil⟩⟩⟩⟩⟩⟩⟩⟩⟩⟩⟩⟩)
def S_X3_admit : Nat → Option (List Bool) := fun pc => none
theorem PE_X3_admit (K : gK) (Q : gQ) (n : Nat) (lv : gL) (st : List Value) (h : gH) (kc ks : Nat) : grun P_X3_admit S_X3_admit K Q (n + 1) 0 lv st h kc ks = gi_ald 0 1 (gnx P_X3_admit S_X3_admit K Q n) Q 0 lv st h kc ks ∧ grun P_X3_admit S_X3_admit K Q (n + 1) 1 lv st h kc ks = gi_getf 6 1 (gnx P_X3_admit S_X3_admit K Q n) Q 1 lv st h kc ks ∧ grun P_X3_admit S_X3_admit K Q (n + 1) 4 lv st h kc ks = gi_new 1 11 2 [.null, .int 0] (gnx P_X3_admit S_X3_admit K Q n) Q 4 lv st h kc ks ∧ grun P_X3_admit S_X3_admit K Q (n + 1) 7 lv st h kc ks = gi_dup (gnx P_X3_admit S_X3_admit K Q n) Q 7 lv st h kc ks ∧ grun P_X3_admit S_X3_admit K Q (n + 1) 8 lv st h kc ks = gi_ald 1 1 (gnx P_X3_admit S_X3_admit K Q n) Q 8 lv st h kc ks ∧ grun P_X3_admit S_X3_admit K Q (n + 1) 9 lv st h kc ks = gi_ald 0 1 (gnx P_X3_admit S_X3_admit K Q n) Q 9 lv st h kc ks ∧ grun P_X3_admit S_X3_admit K Q (n + 1) 10 lv st h kc ks = gi_getf 6 2 (gnx P_X3_admit S_X3_admit K Q n) Q 10 lv st h kc ks ∧ grun P_X3_admit S_X3_admit K Q (n + 1) 13 lv st h kc ks = gi_callV 2 0 0 0 T_Jx4a65c_size_8abf5 (gnx P_X3_admit S_X3_admit K Q n) Q 13 lv st h kc ks ∧ grun P_X3_admit S_X3_admit K Q (n + 1) 16 lv st h kc ks = gi_callI 2 0 0 T_X8_init (gnx P_X3_admit S_X3_admit K Q n) Q 16 lv st h kc ks ∧ grun P_X3_admit S_X3_admit K Q (n + 1) 19 lv st h kc ks = gi_callV 2 1 1 1000 T_Jx4a65c_add_9ea2d (gnx P_X3_admit S_X3_admit K Q n) Q 19 lv st h kc ks ∧ grun P_X3_admit S_X3_admit K Q (n + 1) 22 lv st h kc ks = gi_pop (gnx P_X3_admit S_X3_admit K Q n) Q 22 lv st h kc ks ∧ grun P_X3_admit S_X3_admit K Q (n + 1) 23 lv st h kc ks = gi_vret (gnx P_X3_admit S_X3_admit K Q n) Q 23 lv st h kc ks := ⟨rfl, rfl, rfl, rfl, rfl, rfl, rfl, rfl, rfl, rfl, rfl, rfl⟩
theorem PN_X3_admit (K : gK) (Q : gQ) (n : Nat) (lv : gL) (st : List Value) (h : gH) (kc ks : Nat) : gnx P_X3_admit S_X3_admit K Q n 0 lv st h kc ks = grun P_X3_admit S_X3_admit K Q n 0 lv st h kc ks ∧ gnx P_X3_admit S_X3_admit K Q n 1 lv st h kc ks = grun P_X3_admit S_X3_admit K Q n 1 lv st h kc ks ∧ gnx P_X3_admit S_X3_admit K Q n 4 lv st h kc ks = grun P_X3_admit S_X3_admit K Q n 4 lv st h kc ks ∧ gnx P_X3_admit S_X3_admit K Q n 7 lv st h kc ks = grun P_X3_admit S_X3_admit K Q n 7 lv st h kc ks ∧ gnx P_X3_admit S_X3_admit K Q n 8 lv st h kc ks = grun P_X3_admit S_X3_admit K Q n 8 lv st h kc ks ∧ gnx P_X3_admit S_X3_admit K Q n 9 lv st h kc ks = grun P_X3_admit S_X3_admit K Q n 9 lv st h kc ks ∧ gnx P_X3_admit S_X3_admit K Q n 10 lv st h kc ks = grun P_X3_admit S_X3_admit K Q n 10 lv st h kc ks ∧ gnx P_X3_admit S_X3_admit K Q n 13 lv st h kc ks = grun P_X3_admit S_X3_admit K Q n 13 lv st h kc ks ∧ gnx P_X3_admit S_X3_admit K Q n 16 lv st h kc ks = grun P_X3_admit S_X3_admit K Q n 16 lv st h kc ks ∧ gnx P_X3_admit S_X3_admit K Q n 19 lv st h kc ks = grun P_X3_admit S_X3_admit K Q n 19 lv st h kc ks ∧ gnx P_X3_admit S_X3_admit K Q n 22 lv st h kc ks = grun P_X3_admit S_X3_admit K Q n 22 lv st h kc ks ∧ gnx P_X3_admit S_X3_admit K Q n 23 lv st h kc ks = grun P_X3_admit S_X3_admit K Q n 23 lv st h kc ks := ⟨rfl, rfl, rfl, rfl, rfl, rfl, rfl, rfl, rfl, rfl, rfl, rfl⟩
theorem go_X3_admit {X : gX} {Q : gQ} (hC : gC M_X3_admit.1 M_X3_admit.2.1 M_X3_admit.2.2.1 M_X3_admit.2.2.2.1 M_X3_admit.2.2.2.2.1 M_X3_admit.2.2.2.2.2.1 M_X3_admit.2.2.2.2.2.2 X) (n : Nat) {pc : Nat} {lv : gL} {st : List Value} {h : gH} {kc ks : Nat} (k : grun P_X3_admit S_X3_admit (gd 2 X Q) Q n pc lv st h kc ks) : gd 2 X Q pc lv st h kc ks := grun_ok PS_X3_admit hC S_X3_admit n pc lv st h kc ks k
theorem sp_X3_admit : gSp 9 2 1002 yX3_admit [.code yX3_admit cX3_admit 2 none] T_X3_admit := by
  refine gEntry (by decide +kernel) (fun av h Q hT => ?_) (fun X Q hC av h hT => ?_)
  · obtain ⟨a, u, m1, m2, us, ms, x, rfl, -⟩ := hT
    exact Nat.le_of_ble_eq_true rfl
  · obtain ⟨a, u, m1, m2, us, ms, x, rfl, hq, h1, h2, hl, hms, hy, he, k⟩ := hT
    refine go_X3_admit hC 60 (lv := [some (.ref a), some (.ref u)]) ?_
    simp (disch := omega) only [PE_X3_admit, PN_X3_admit, gi_ald, gi_callI, gi_callV, gi_dup, gi_getf, gi_new, gi_pop, gi_vret, gi_call, gRcv, List.getElem?_cons_zero, List.getElem?_cons_succ, Nat.reduceAdd, Nat.reduceSub, Nat.reduceLT, Nat.reduceLeDiff, Nat.reduceEqDiff, List.length_cons, List.length_nil, List.set_cons_zero, List.set_cons_succ, gst1, gst2, gcl, Value.category, reduceIte, List.drop_succ_cons, List.drop_zero, List.drop_nil, List.take_succ_cons, List.take_zero, List.take_nil, List.reverse_cons, List.reverse_nil, List.nil_append, List.cons_append, List.map_cons, List.map_nil, List.sum_cons, List.sum_nil, gmask, gcont, Option.toList, true_and, and_true, okf_int, okf_float, okf_ref, okf_null, okf_arr, okf_bool, okf_true, okf_false, Nat.zero_le, Nat.sub_zero, grv, gset_gset, gset_d2, gset_d3, gset_d4, nI_add, nsub, pk_mul, nlt, nle, neq, nlt0, ngt0, nle0, nge0, neq0, npred, nneg1, ncl, vin, vnarc, narc, nar_b0, nar_b1, not_true_eq_false, not_false_eq_true, false_implies, true_implies, implies_true, ite_true, ite_false, Bool.false_eq_true, mk_shl, mk_or, mk_and, hq, h1]
    intro q hqn
    have nq : ∀ {p : Nat} {e : gE}, h p = some e → p ≠ q := fun z y => by rw [y, hqn] at z; cases z
    have he2 : gHasEd (gset h q (oX 11 [.null, .int 0])) := he.new hqn
    have a2 : gset h q (oX 11 [.null, .int 0]) a = some (oX 6 [x, .ref m1, .ref m2]) := by rw [gset_ne (nq hq)]; exact hq
    have m22 : gset h q (oX 11 [.null, .int 0]) m2 = some (lX ms) := by rw [gset_ne (nq h2)]; exact h2
    simp (disch := omega) only [PE_X3_admit, PN_X3_admit, gi_ald, gi_callI, gi_callV, gi_dup, gi_getf, gi_new, gi_pop, gi_vret, gi_call, gRcv, List.getElem?_cons_zero, List.getElem?_cons_succ, Nat.reduceAdd, Nat.reduceSub, Nat.reduceLT, Nat.reduceLeDiff, Nat.reduceEqDiff, List.length_cons, List.length_nil, List.set_cons_zero, List.set_cons_succ, gst1, gst2, gcl, Value.category, reduceIte, List.drop_succ_cons, List.drop_zero, List.drop_nil, List.take_succ_cons, List.take_zero, List.take_nil, List.reverse_cons, List.reverse_nil, List.nil_append, List.cons_append, List.map_cons, List.map_nil, List.sum_cons, List.sum_nil, gmask, gcont, Option.toList, true_and, and_true, okf_int, okf_float, okf_ref, okf_null, okf_arr, okf_bool, okf_true, okf_false, Nat.zero_le, Nat.sub_zero, grv, gset_gset, gset_d2, gset_d3, gset_d4, nI_add, nsub, pk_mul, nlt, nle, neq, nlt0, ngt0, nle0, nge0, neq0, npred, nneg1, ncl, vin, vnarc, narc, nar_b0, nar_b1, not_true_eq_false, not_false_eq_true, false_implies, true_implies, implies_true, ite_true, ite_false, Bool.false_eq_true, mk_shl, mk_or, mk_and, a2, m22, e_size m22 he2]
    refine ⟨q, u, _, _, _, rfl, gset_self _ _ _, ?_⟩
    rw [gset_gset]
    have he3 : gHasEd (gset h q (oX 11 [.ref u, .int (nI ms.length)])) := he.new hqn
    have m13 : gset h q (oX 11 [.ref u, .int (nI ms.length)]) m1 = some (lX us) := by rw [gset_ne (nq h1)]; exact h1
    have hgq : gObj (gset h q (oX 11 [.ref u, .int (nI ms.length)])) q := by
      unfold gObj
      rw [gset_self]
      exact ⟨by decide, by decide⟩
    simp (disch := omega) only [PE_X3_admit, PN_X3_admit, gi_ald, gi_callI, gi_callV, gi_dup, gi_getf, gi_new, gi_pop, gi_vret, gi_call, gRcv, List.getElem?_cons_zero, List.getElem?_cons_succ, Nat.reduceAdd, Nat.reduceSub, Nat.reduceLT, Nat.reduceLeDiff, Nat.reduceEqDiff, List.length_cons, List.length_nil, List.set_cons_zero, List.set_cons_succ, gst1, gst2, gcl, Value.category, reduceIte, List.drop_succ_cons, List.drop_zero, List.drop_nil, List.take_succ_cons, List.take_zero, List.take_nil, List.reverse_cons, List.reverse_nil, List.nil_append, List.cons_append, List.map_cons, List.map_nil, List.sum_cons, List.sum_nil, gmask, gcont, Option.toList, true_and, and_true, okf_int, okf_float, okf_ref, okf_null, okf_arr, okf_bool, okf_true, okf_false, Nat.zero_le, Nat.sub_zero, grv, gset_gset, gset_d2, gset_d3, gset_d4, nI_add, nsub, pk_mul, nlt, nle, neq, nlt0, ngt0, nle0, nge0, neq0, npred, nneg1, ncl, vin, vnarc, narc, nar_b0, nar_b1, not_true_eq_false, not_false_eq_true, false_implies, true_implies, implies_true, ite_true, ite_false, Bool.false_eq_true, mk_shl, mk_or, mk_and, m13, e_add m13 (by omega) hgq (fun y hy9 => gObj_new hqn (hy y hy9)) he3]
    exact k q hqn
def bmk (ns : List Nat) : Nat := ns.foldl (fun m u => m ||| 2 ^ u) 0
theorem bmk_sn (ns : List Nat) (n : Nat) : bmk (ns ++ [n]) = bmk ns ||| 2 ^ n := by
  unfold bmk
  rw [List.foldl_append]
  rfl
theorem bmk_lt (ns : List Nat) (h : ∀ n ∈ ns, n < 6) : bmk ns < 64 := by
  unfold bmk
  have key : ∀ (l : List Nat) (a : Nat), a < 64 → (∀ n ∈ l, n < 6) → l.foldl (fun m u => m ||| 2 ^ u) a < 64 := by
    intro l
    induction l with
    | nil => exact fun a ha _ => ha
    | cons n l ih => exact fun a ha hl => ih _ (msk_lt a ha n (hl n List.mem_cons_self)) (fun n hn => hl n (List.mem_cons_of_mem _ hn))
  exact key ns 0 (by decide) h
theorem tk_sn {α : Type} {l : List α} {j : Nat} {v : α} (h : l[j]? = some v) : l.take (j + 1) = l.take j ++ [v] := by
  rw [List.take_succ, h]
  rfl
def T_X3_memberMask : gPT := fun av h Q => ∃ (a m : Nat) (g : Nat → Nat) (ns : List Nat) (x y : Value), av = [.ref a] ∧ h a = some (oX 6 [x, .ref m, y]) ∧ h m = some (lX (ns.map g)) ∧ ns.length ≤ 60 ∧ (∀ n ∈ ns, n < 6 ∧ ∃ p v y z w, h (g n) = some (oX 11 [.ref p, v]) ∧ h p = some (oX 8 [.int (nI n), y, z, w])) ∧ gHasEd h ∧ Q (.inl (some (.int (nI (bmk ns))))) h
abbrev M_X3_memberMask : gM := (RX3, cX3_memberMask, 3, (some .int), "memberMask", [], 4)
def L_X3_memberMask : List (Nat × gOp) := [(0, gi_k (.int (nI 0)) 1), (1, gi_ist 1 1), (2, gi_k (.int (nI 0)) 1), (3, gi_ist 2 1), (4, gi_ild 2 1), (5, gi_ald 0 1), (6, gi_getf 6 1), (9, gi_callV 2 0 0 0 T_Jx4a65c_size_8abf5), (12, gi_ic_ge 41), (15, gi_ild 1 1), (16, gi_ald 0 1), (17, gi_getf 6 1), (20, gi_ild 2 1), (21, gi_callV 2 1 0 0 T_Jx4a65c_get_915e3), (24, gi_ckc 11), (27, gi_getf 11 0), (30, gi_callV 8 0 0 0 T_X5_bit), (33, gi_ior), (34, gi_ist 1 1), (35, gi_iinc 2 (nI 1)), (38, gi_goto 4), (41, gi_ild 1 1), (42, gi_iret)]
def P_X3_memberMask : Nat → gOp := gtab L_X3_memberMask
theorem PS_X3_memberMask : ∀ pc, gSnd M_X3_memberMask pc (P_X3_memberMask pc) := gtab_ok (
  List.forall_mem_cons.mpr ⟨gs_iconst (show decode cX3_memberMask 0 = .ok (.iconst 0, 1) by decide +kernel) (by decide +kernel),
  List.forall_mem_cons.mpr ⟨gs_istore_n (show decode cX3_memberMask 1 = .ok (.istore_n 1, 1) by decide +kernel) rfl (by decide),
  List.forall_mem_cons.mpr ⟨gs_iconst (show decode cX3_memberMask 2 = .ok (.iconst 0, 1) by decide +kernel) (by decide +kernel),
  List.forall_mem_cons.mpr ⟨gs_istore_n (show decode cX3_memberMask 3 = .ok (.istore_n 2, 1) by decide +kernel) rfl (by decide),
  List.forall_mem_cons.mpr ⟨gs_iload_n (show decode cX3_memberMask 4 = .ok (.iload_n 2, 1) by decide +kernel) rfl,
  List.forall_mem_cons.mpr ⟨gs_aload_n (show decode cX3_memberMask 5 = .ok (.aload_n 0, 1) by decide +kernel) rfl,
  List.forall_mem_cons.mpr ⟨gs_getf (ref := "Inglenook$Room") gKX3 (by decide) (show decode cX3_memberMask 6 = .ok (.getfield 16, 3) by decide +kernel) (lw_in 499 (by decide +kernel)) (Or.inl rfl),
  List.forall_mem_cons.mpr ⟨gs_callV gKJx4a65c sp_Jx4a65c_size_8abf5 rfl (show decode cX3_memberMask 9 = .ok (.invokevirtual 23, 3) by decide +kernel) (by decide) (by decide) (lw_in 166 (by decide +kernel)) (lw_in 41 (by decide +kernel)) (lw_in 516 (by decide +kernel)) (lw_in 164 (by decide +kernel)) (lw_in 165 (by decide +kernel)) (by decide +kernel),
  List.forall_mem_cons.mpr ⟨gs_ic_ge (show decode cX3_memberMask 12 = .ok (.if_icmp .ge 29, 3) by decide +kernel) (by decide),
  List.forall_mem_cons.mpr ⟨gs_iload_n (show decode cX3_memberMask 15 = .ok (.iload_n 1, 1) by decide +kernel) rfl,
  List.forall_mem_cons.mpr ⟨gs_aload_n (show decode cX3_memberMask 16 = .ok (.aload_n 0, 1) by decide +kernel) rfl,
  List.forall_mem_cons.mpr ⟨gs_getf (ref := "Inglenook$Room") gKX3 (by decide) (show decode cX3_memberMask 17 = .ok (.getfield 16, 3) by decide +kernel) (lw_in 499 (by decide +kernel)) (Or.inl rfl),
  List.forall_mem_cons.mpr ⟨gs_iload_n (show decode cX3_memberMask 20 = .ok (.iload_n 2, 1) by decide +kernel) rfl,
  List.forall_mem_cons.mpr ⟨gs_callV gKJx4a65c sp_Jx4a65c_get_915e3 rfl (show decode cX3_memberMask 21 = .ok (.invokevirtual 27, 3) by decide +kernel) (by decide) (by decide) (lw_in 429 (by decide +kernel)) (lw_in 41 (by decide +kernel)) (lw_in 549 (by decide +kernel)) (lw_in 427 (by decide +kernel)) (lw_in 428 (by decide +kernel)) (by decide +kernel),
  List.forall_mem_cons.mpr ⟨gs_ckc gKX8 (show decode cX3_memberMask 24 = .ok (.checkcast 31, 3) by decide +kernel) (lw_in 514 (by decide +kernel)),
  List.forall_mem_cons.mpr ⟨gs_getfN (ref := "Inglenook$Member") (host := "Inglenook") gKX8 (by decide) (show decode cX3_memberMask 27 = .ok (.getfield 33, 3) by decide +kernel) (lw_in 522 (by decide +kernel)) (Or.inl rfl),
  List.forall_mem_cons.mpr ⟨gs_callV gKX5 sp_X5_bit rfl (show decode cX3_memberMask 30 = .ok (.invokevirtual 51, 3) by decide +kernel) (by decide) (by decide) (lw_in 764 (by decide +kernel)) (lw_in 48 (by decide +kernel)) (lw_in 761 (by decide +kernel)) (lw_in 762 (by decide +kernel)) (lw_in 763 (by decide +kernel)) (by decide +kernel),
  List.forall_mem_cons.mpr ⟨gs_ior (show decode cX3_memberMask 33 = .ok (.ior, 1) by decide +kernel),
  List.forall_mem_cons.mpr ⟨gs_istore_n (show decode cX3_memberMask 34 = .ok (.istore_n 1, 1) by decide +kernel) rfl (by decide),
  List.forall_mem_cons.mpr ⟨gs_iinc (show decode cX3_memberMask 35 = .ok (.iinc 2 1, 3) by decide +kernel) (by decide +kernel) (by decide),
  List.forall_mem_cons.mpr ⟨gs_goto (show decode cX3_memberMask 38 = .ok (.goto (-34), 3) by decide +kernel) (by decide),
  List.forall_mem_cons.mpr ⟨gs_iload_n (show decode cX3_memberMask 41 = .ok (.iload_n 1, 1) by decide +kernel) rfl,
  List.forall_mem_cons.mpr ⟨gs_iret (show decode cX3_memberMask 42 = .ok (.ireturn, 1) by decide +kernel) rfl, fun _ h => absurd h List.not_mem_nil⟩⟩⟩⟩⟩⟩⟩⟩⟩⟩⟩⟩⟩⟩⟩⟩⟩⟩⟩⟩⟩⟩⟩)
def S_X3_memberMask : Nat → Option (List Bool) := fun pc => if pc = 4 then some [true, true, true] else none
theorem PE_X3_memberMask (K : gK) (Q : gQ) (n : Nat) (lv : gL) (st : List Value) (h : gH) (kc ks : Nat) : grun P_X3_memberMask S_X3_memberMask K Q (n + 1) 0 lv st h kc ks = gi_k (.int (nI 0)) 1 (gnx P_X3_memberMask S_X3_memberMask K Q n) Q 0 lv st h kc ks ∧ grun P_X3_memberMask S_X3_memberMask K Q (n + 1) 1 lv st h kc ks = gi_ist 1 1 (gnx P_X3_memberMask S_X3_memberMask K Q n) Q 1 lv st h kc ks ∧ grun P_X3_memberMask S_X3_memberMask K Q (n + 1) 2 lv st h kc ks = gi_k (.int (nI 0)) 1 (gnx P_X3_memberMask S_X3_memberMask K Q n) Q 2 lv st h kc ks ∧ grun P_X3_memberMask S_X3_memberMask K Q (n + 1) 3 lv st h kc ks = gi_ist 2 1 (gnx P_X3_memberMask S_X3_memberMask K Q n) Q 3 lv st h kc ks ∧ grun P_X3_memberMask S_X3_memberMask K Q (n + 1) 4 lv st h kc ks = gi_ild 2 1 (gnx P_X3_memberMask S_X3_memberMask K Q n) Q 4 lv st h kc ks ∧ grun P_X3_memberMask S_X3_memberMask K Q (n + 1) 5 lv st h kc ks = gi_ald 0 1 (gnx P_X3_memberMask S_X3_memberMask K Q n) Q 5 lv st h kc ks ∧ grun P_X3_memberMask S_X3_memberMask K Q (n + 1) 6 lv st h kc ks = gi_getf 6 1 (gnx P_X3_memberMask S_X3_memberMask K Q n) Q 6 lv st h kc ks ∧ grun P_X3_memberMask S_X3_memberMask K Q (n + 1) 9 lv st h kc ks = gi_callV 2 0 0 0 T_Jx4a65c_size_8abf5 (gnx P_X3_memberMask S_X3_memberMask K Q n) Q 9 lv st h kc ks ∧ grun P_X3_memberMask S_X3_memberMask K Q (n + 1) 12 lv st h kc ks = gi_ic_ge 41 (gnx P_X3_memberMask S_X3_memberMask K Q n) Q 12 lv st h kc ks ∧ grun P_X3_memberMask S_X3_memberMask K Q (n + 1) 15 lv st h kc ks = gi_ild 1 1 (gnx P_X3_memberMask S_X3_memberMask K Q n) Q 15 lv st h kc ks ∧ grun P_X3_memberMask S_X3_memberMask K Q (n + 1) 16 lv st h kc ks = gi_ald 0 1 (gnx P_X3_memberMask S_X3_memberMask K Q n) Q 16 lv st h kc ks ∧ grun P_X3_memberMask S_X3_memberMask K Q (n + 1) 17 lv st h kc ks = gi_getf 6 1 (gnx P_X3_memberMask S_X3_memberMask K Q n) Q 17 lv st h kc ks ∧ grun P_X3_memberMask S_X3_memberMask K Q (n + 1) 20 lv st h kc ks = gi_ild 2 1 (gnx P_X3_memberMask S_X3_memberMask K Q n) Q 20 lv st h kc ks ∧ grun P_X3_memberMask S_X3_memberMask K Q (n + 1) 21 lv st h kc ks = gi_callV 2 1 0 0 T_Jx4a65c_get_915e3 (gnx P_X3_memberMask S_X3_memberMask K Q n) Q 21 lv st h kc ks ∧ grun P_X3_memberMask S_X3_memberMask K Q (n + 1) 24 lv st h kc ks = gi_ckc 11 (gnx P_X3_memberMask S_X3_memberMask K Q n) Q 24 lv st h kc ks ∧ grun P_X3_memberMask S_X3_memberMask K Q (n + 1) 27 lv st h kc ks = gi_getf 11 0 (gnx P_X3_memberMask S_X3_memberMask K Q n) Q 27 lv st h kc ks ∧ grun P_X3_memberMask S_X3_memberMask K Q (n + 1) 30 lv st h kc ks = gi_callV 8 0 0 0 T_X5_bit (gnx P_X3_memberMask S_X3_memberMask K Q n) Q 30 lv st h kc ks ∧ grun P_X3_memberMask S_X3_memberMask K Q (n + 1) 33 lv st h kc ks = gi_ior (gnx P_X3_memberMask S_X3_memberMask K Q n) Q 33 lv st h kc ks ∧ grun P_X3_memberMask S_X3_memberMask K Q (n + 1) 34 lv st h kc ks = gi_ist 1 1 (gnx P_X3_memberMask S_X3_memberMask K Q n) Q 34 lv st h kc ks ∧ grun P_X3_memberMask S_X3_memberMask K Q (n + 1) 35 lv st h kc ks = gi_iinc 2 (nI 1) (gnx P_X3_memberMask S_X3_memberMask K Q n) Q 35 lv st h kc ks ∧ grun P_X3_memberMask S_X3_memberMask K Q (n + 1) 38 lv st h kc ks = gi_goto 4 (gnx P_X3_memberMask S_X3_memberMask K Q n) Q 38 lv st h kc ks ∧ grun P_X3_memberMask S_X3_memberMask K Q (n + 1) 41 lv st h kc ks = gi_ild 1 1 (gnx P_X3_memberMask S_X3_memberMask K Q n) Q 41 lv st h kc ks ∧ grun P_X3_memberMask S_X3_memberMask K Q (n + 1) 42 lv st h kc ks = gi_iret (gnx P_X3_memberMask S_X3_memberMask K Q n) Q 42 lv st h kc ks := ⟨rfl, rfl, rfl, rfl, rfl, rfl, rfl, rfl, rfl, rfl, rfl, rfl, rfl, rfl, rfl, rfl, rfl, rfl, rfl, rfl, rfl, rfl, rfl⟩
theorem PN_X3_memberMask (K : gK) (Q : gQ) (n : Nat) (lv : gL) (st : List Value) (h : gH) (kc ks : Nat) : gnx P_X3_memberMask S_X3_memberMask K Q n 0 lv st h kc ks = grun P_X3_memberMask S_X3_memberMask K Q n 0 lv st h kc ks ∧ gnx P_X3_memberMask S_X3_memberMask K Q n 1 lv st h kc ks = grun P_X3_memberMask S_X3_memberMask K Q n 1 lv st h kc ks ∧ gnx P_X3_memberMask S_X3_memberMask K Q n 2 lv st h kc ks = grun P_X3_memberMask S_X3_memberMask K Q n 2 lv st h kc ks ∧ gnx P_X3_memberMask S_X3_memberMask K Q n 3 lv st h kc ks = grun P_X3_memberMask S_X3_memberMask K Q n 3 lv st h kc ks ∧ gnx P_X3_memberMask S_X3_memberMask K Q n 4 lv st h kc ks = K 4 (gmask [true, true, true] lv) st h kc ks ∧ gnx P_X3_memberMask S_X3_memberMask K Q n 5 lv st h kc ks = grun P_X3_memberMask S_X3_memberMask K Q n 5 lv st h kc ks ∧ gnx P_X3_memberMask S_X3_memberMask K Q n 6 lv st h kc ks = grun P_X3_memberMask S_X3_memberMask K Q n 6 lv st h kc ks ∧ gnx P_X3_memberMask S_X3_memberMask K Q n 9 lv st h kc ks = grun P_X3_memberMask S_X3_memberMask K Q n 9 lv st h kc ks ∧ gnx P_X3_memberMask S_X3_memberMask K Q n 12 lv st h kc ks = grun P_X3_memberMask S_X3_memberMask K Q n 12 lv st h kc ks ∧ gnx P_X3_memberMask S_X3_memberMask K Q n 15 lv st h kc ks = grun P_X3_memberMask S_X3_memberMask K Q n 15 lv st h kc ks ∧ gnx P_X3_memberMask S_X3_memberMask K Q n 16 lv st h kc ks = grun P_X3_memberMask S_X3_memberMask K Q n 16 lv st h kc ks ∧ gnx P_X3_memberMask S_X3_memberMask K Q n 17 lv st h kc ks = grun P_X3_memberMask S_X3_memberMask K Q n 17 lv st h kc ks ∧ gnx P_X3_memberMask S_X3_memberMask K Q n 20 lv st h kc ks = grun P_X3_memberMask S_X3_memberMask K Q n 20 lv st h kc ks ∧ gnx P_X3_memberMask S_X3_memberMask K Q n 21 lv st h kc ks = grun P_X3_memberMask S_X3_memberMask K Q n 21 lv st h kc ks ∧ gnx P_X3_memberMask S_X3_memberMask K Q n 24 lv st h kc ks = grun P_X3_memberMask S_X3_memberMask K Q n 24 lv st h kc ks ∧ gnx P_X3_memberMask S_X3_memberMask K Q n 27 lv st h kc ks = grun P_X3_memberMask S_X3_memberMask K Q n 27 lv st h kc ks ∧ gnx P_X3_memberMask S_X3_memberMask K Q n 30 lv st h kc ks = grun P_X3_memberMask S_X3_memberMask K Q n 30 lv st h kc ks ∧ gnx P_X3_memberMask S_X3_memberMask K Q n 33 lv st h kc ks = grun P_X3_memberMask S_X3_memberMask K Q n 33 lv st h kc ks ∧ gnx P_X3_memberMask S_X3_memberMask K Q n 34 lv st h kc ks = grun P_X3_memberMask S_X3_memberMask K Q n 34 lv st h kc ks ∧ gnx P_X3_memberMask S_X3_memberMask K Q n 35 lv st h kc ks = grun P_X3_memberMask S_X3_memberMask K Q n 35 lv st h kc ks ∧ gnx P_X3_memberMask S_X3_memberMask K Q n 38 lv st h kc ks = grun P_X3_memberMask S_X3_memberMask K Q n 38 lv st h kc ks ∧ gnx P_X3_memberMask S_X3_memberMask K Q n 41 lv st h kc ks = grun P_X3_memberMask S_X3_memberMask K Q n 41 lv st h kc ks ∧ gnx P_X3_memberMask S_X3_memberMask K Q n 42 lv st h kc ks = grun P_X3_memberMask S_X3_memberMask K Q n 42 lv st h kc ks := ⟨rfl, rfl, rfl, rfl, rfl, rfl, rfl, rfl, rfl, rfl, rfl, rfl, rfl, rfl, rfl, rfl, rfl, rfl, rfl, rfl, rfl, rfl, rfl⟩
theorem go_X3_memberMask {X : gX} {Q : gQ} (hC : gC M_X3_memberMask.1 M_X3_memberMask.2.1 M_X3_memberMask.2.2.1 M_X3_memberMask.2.2.2.1 M_X3_memberMask.2.2.2.2.1 M_X3_memberMask.2.2.2.2.2.1 M_X3_memberMask.2.2.2.2.2.2 X) (n : Nat) {pc : Nat} {lv : gL} {st : List Value} {h : gH} {kc ks : Nat} (k : grun P_X3_memberMask S_X3_memberMask (gd 3 X Q) Q n pc lv st h kc ks) : gd 3 X Q pc lv st h kc ks := grun_ok PS_X3_memberMask hC S_X3_memberMask n pc lv st h kc ks k
theorem sp_X3_memberMask : gSp 4 0 0 yX3_memberMask [.code yX3_memberMask cX3_memberMask 3 (some .int)] T_X3_memberMask := by
  refine gEntry (by decide +kernel) (fun av h Q hT => ?_) (fun X Q hC av h hT => ?_)
  · obtain ⟨a, m, g, ns, x, y, rfl, -⟩ := hT
    exact Nat.le_of_ble_eq_true rfl
  · obtain ⟨a, m, g, ns, x, y, rfl, hq, hm, hl, hn, he, k⟩ := hT
    refine go_X3_memberMask hC 60 (lv := [some (.ref a), none, none]) ?_
    have hml : (ns.map g).length = ns.length := List.length_map _
    have key : ∀ n j, j + n = ns.length → gd 3 X Q 4 [some (.ref a), some (.int (nI (bmk (ns.take j)))), some (.int (nI j))] [] h 0 0 := by
      intro n
      induction n with
      | zero =>
        intro j hj
        refine go_X3_memberMask hC 60 ?_
        simp (disch := omega) only [PE_X3_memberMask, PN_X3_memberMask, gi_ald, gi_callV, gi_ckc, gi_getf, gi_goto, gi_ic_ge, gi_iinc, gi_ild, gi_ior, gi_iret, gi_ist, gi_k, gi_call, gRcv, List.getElem?_cons_zero, List.getElem?_cons_succ, Nat.reduceAdd, Nat.reduceSub, Nat.reduceLT, Nat.reduceLeDiff, Nat.reduceEqDiff, List.length_cons, List.length_nil, List.set_cons_zero, List.set_cons_succ, gst1, gst2, gcl, Value.category, reduceIte, List.drop_succ_cons, List.drop_zero, List.drop_nil, List.take_succ_cons, List.take_zero, List.take_nil, List.reverse_cons, List.reverse_nil, List.nil_append, List.cons_append, List.map_cons, List.map_nil, List.sum_cons, List.sum_nil, gmask, gcont, Option.toList, true_and, and_true, okf_int, okf_float, okf_ref, okf_null, okf_arr, okf_bool, okf_true, okf_false, Nat.zero_le, Nat.sub_zero, grv, gset_gset, gset_d2, gset_d3, gset_d4, nI_add, nsub, pk_mul, nlt, nle, neq, nlt0, ngt0, nle0, nge0, neq0, npred, nneg1, ncl, vin, vnarc, narc, nar_b0, nar_b1, not_true_eq_false, not_false_eq_true, false_implies, true_implies, implies_true, ite_true, ite_false, Bool.false_eq_true, mk_shl, mk_or, mk_and, hq, hm, e_size hm he, hml]
        rw [List.take_of_length_le (by omega)]
        exact ⟨fun _ => k, fun q => by omega⟩
      | succ n ih =>
        intro j hj
        have hv := List.getElem?_eq_getElem (show j < ns.length by omega)
        have hv2 : ns[j] ∈ ns := List.getElem_mem (show j < ns.length by omega)
        generalize ns[j] = v at hv hv2
        have hv3 : (ns.map g)[j]? = some (g v) := by rw [List.getElem?_map, hv]; rfl
        obtain ⟨hv6, p1, v1, y1, z1, w1, hv5, hv4⟩ := hn v hv2
        have k3 := ih (j + 1) (by omega)
        rw [tk_sn hv, bmk_sn] at k3
        refine go_X3_memberMask hC 60 ?_
        simp (disch := omega) only [PE_X3_memberMask, PN_X3_memberMask, gi_ald, gi_callV, gi_ckc, gi_getf, gi_goto, gi_ic_ge, gi_iinc, gi_ild, gi_ior, gi_iret, gi_ist, gi_k, gi_call, gRcv, List.getElem?_cons_zero, List.getElem?_cons_succ, Nat.reduceAdd, Nat.reduceSub, Nat.reduceLT, Nat.reduceLeDiff, Nat.reduceEqDiff, List.length_cons, List.length_nil, List.set_cons_zero, List.set_cons_succ, gst1, gst2, gcl, Value.category, reduceIte, List.drop_succ_cons, List.drop_zero, List.drop_nil, List.take_succ_cons, List.take_zero, List.take_nil, List.reverse_cons, List.reverse_nil, List.nil_append, List.cons_append, List.map_cons, List.map_nil, List.sum_cons, List.sum_nil, gmask, gcont, Option.toList, true_and, and_true, okf_int, okf_float, okf_ref, okf_null, okf_arr, okf_bool, okf_true, okf_false, Nat.zero_le, Nat.sub_zero, grv, gset_gset, gset_d2, gset_d3, gset_d4, nI_add, nsub, pk_mul, nlt, nle, neq, nlt0, ngt0, nle0, nge0, neq0, npred, nneg1, ncl, vin, vnarc, narc, nar_b0, nar_b1, not_true_eq_false, not_false_eq_true, false_implies, true_implies, implies_true, ite_true, ite_false, Bool.false_eq_true, mk_shl, mk_or, mk_and, hq, hm, e_size hm he, hml, e_get hm he (by omega) hv3, hv5, hv4]
        refine ⟨fun q => by omega, fun _ => ⟨p1, v, y1, z1, w1, rfl, hv4, hv6, ?_⟩⟩
        simp (disch := omega) only [PE_X3_memberMask, PN_X3_memberMask, gi_ald, gi_callV, gi_ckc, gi_getf, gi_goto, gi_ic_ge, gi_iinc, gi_ild, gi_ior, gi_iret, gi_ist, gi_k, gi_call, gRcv, List.getElem?_cons_zero, List.getElem?_cons_succ, Nat.reduceAdd, Nat.reduceSub, Nat.reduceLT, Nat.reduceLeDiff, Nat.reduceEqDiff, List.length_cons, List.length_nil, List.set_cons_zero, List.set_cons_succ, gst1, gst2, gcl, Value.category, reduceIte, List.drop_succ_cons, List.drop_zero, List.drop_nil, List.take_succ_cons, List.take_zero, List.take_nil, List.reverse_cons, List.reverse_nil, List.nil_append, List.cons_append, List.map_cons, List.map_nil, List.sum_cons, List.sum_nil, gmask, gcont, Option.toList, true_and, and_true, okf_int, okf_float, okf_ref, okf_null, okf_arr, okf_bool, okf_true, okf_false, Nat.zero_le, Nat.sub_zero, grv, gset_gset, gset_d2, gset_d3, gset_d4, nI_add, nsub, pk_mul, nlt, nle, neq, nlt0, ngt0, nle0, nge0, neq0, npred, nneg1, ncl, vin, vnarc, narc, nar_b0, nar_b1, not_true_eq_false, not_false_eq_true, false_implies, true_implies, implies_true, ite_true, ite_false, Bool.false_eq_true, mk_shl, mk_or, mk_and, mk_or _ (bmk_lt _ (fun n h9 => (hn n (List.mem_of_mem_take h9)).1)) _ (mk_p6 _ hv6)]
        exact k3
    simp only [PE_X3_memberMask, PN_X3_memberMask, gi_ald, gi_callV, gi_ckc, gi_getf, gi_goto, gi_ic_ge, gi_iinc, gi_ild, gi_ior, gi_iret, gi_ist, gi_k, gi_call, gRcv, List.getElem?_cons_zero, List.getElem?_cons_succ, Nat.reduceAdd, Nat.reduceSub, Nat.reduceLT, Nat.reduceLeDiff, Nat.reduceEqDiff, List.length_cons, List.length_nil, List.set_cons_zero, List.set_cons_succ, gst1, gst2, gcl, Value.category, reduceIte, List.drop_succ_cons, List.drop_zero, List.drop_nil, List.take_succ_cons, List.take_zero, List.take_nil, List.reverse_cons, List.reverse_nil, List.nil_append, List.cons_append, List.map_cons, List.map_nil, List.sum_cons, List.sum_nil, gmask, gcont, Option.toList, true_and, and_true, okf_int, okf_float, okf_ref, okf_null, okf_arr, okf_bool, okf_true, okf_false, Nat.zero_le, Nat.sub_zero, grv]
    exact key ns.length 0 (by omega)
