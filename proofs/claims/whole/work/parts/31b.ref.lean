theorem gix_in {n : Nat} {u : Int32} (hn : n < 1000000000) : (nI 0 ≤ u ∧ u ≤ nI n - nI 1) ↔ ∃ i, gix n u = some i := by
  constructor
  · rintro ⟨h1, h2⟩
    have h0 : ¬ u < 0 := Int32.not_lt.mpr (by rw [nI_0] at h1; exact h1)
    obtain ⟨i, hi, rfl⟩ := nI_of h0
    cases n with
    | zero => exact absurd (show nI i < 0 from Int32.lt_of_le_of_lt h2 (by decide +kernel)) h0
    | succ n =>
      rw [nsub (by omega), nle (by omega) (by omega)] at h2
      exact ⟨i, gix_nI (by omega) (by omega)⟩
  · rintro ⟨i, h⟩
    obtain ⟨h1, rfl⟩ := gix_some (by omega) h
    rw [nsub (by omega), nle (by omega) (by omega), nle (by omega) (by omega)]
    omega
def T_X7_thrown : gPT := fun av h Q => ∃ (am : Nat → Nat) (th : Int32) (nu nr nm now rf wk : Nat) (y : Nat → Nat → Int32) (tk : Nat → UInt32), av = [.ref (am 0)] ∧ hR h am th nu nr nm now rf wk y tk ∧ Q (.inl (some (.int th))) h
abbrev M_X7_thrown : gM := (RX7, cX7_thrown, 1, (some .int), "thrown", [], 1)
def L_X7_thrown : List (Nat × gOp) := [(0, gi_ald 0 1), (1, gi_getf 10 0), (4, gi_iret)]
def P_X7_thrown : Nat → gOp := gtab L_X7_thrown
theorem PS_X7_thrown : ∀ pc, gSnd M_X7_thrown pc (P_X7_thrown pc) := gtab_ok (
  List.forall_mem_cons.mpr ⟨gs_aload_n (show decode cX7_thrown 0 = .ok (.aload_n 0, 1) by decide +kernel) rfl,
  List.forall_mem_cons.mpr ⟨gs_getf (ref := "InglenookModel") gKX7 (by decide) (show decode cX7_thrown 1 = .ok (.getfield 70, 3) by decide +kernel) (lw_in 1243 (by decide +kernel)) (Or.inl rfl),
  List.forall_mem_cons.mpr ⟨gs_iret (show decode cX7_thrown 4 = .ok (.ireturn, 1) by decide +kernel) rfl, fun _ h => absurd h List.not_mem_nil⟩⟩⟩)
def S_X7_thrown : Nat → Option (List Bool) := fun pc => none
theorem PE_X7_thrown (K : gK) (Q : gQ) (n : Nat) (lv : gL) (st : List Value) (h : gH) (kc ks : Nat) : grun P_X7_thrown S_X7_thrown K Q (n + 1) 0 lv st h kc ks = gi_ald 0 1 (gnx P_X7_thrown S_X7_thrown K Q n) Q 0 lv st h kc ks ∧ grun P_X7_thrown S_X7_thrown K Q (n + 1) 1 lv st h kc ks = gi_getf 10 0 (gnx P_X7_thrown S_X7_thrown K Q n) Q 1 lv st h kc ks ∧ grun P_X7_thrown S_X7_thrown K Q (n + 1) 4 lv st h kc ks = gi_iret (gnx P_X7_thrown S_X7_thrown K Q n) Q 4 lv st h kc ks := ⟨rfl, rfl, rfl⟩
theorem PN_X7_thrown (K : gK) (Q : gQ) (n : Nat) (lv : gL) (st : List Value) (h : gH) (kc ks : Nat) : gnx P_X7_thrown S_X7_thrown K Q n 0 lv st h kc ks = grun P_X7_thrown S_X7_thrown K Q n 0 lv st h kc ks ∧ gnx P_X7_thrown S_X7_thrown K Q n 1 lv st h kc ks = grun P_X7_thrown S_X7_thrown K Q n 1 lv st h kc ks ∧ gnx P_X7_thrown S_X7_thrown K Q n 4 lv st h kc ks = grun P_X7_thrown S_X7_thrown K Q n 4 lv st h kc ks := ⟨rfl, rfl, rfl⟩
theorem go_X7_thrown {X : gX} {Q : gQ} (hC : gC M_X7_thrown.1 M_X7_thrown.2.1 M_X7_thrown.2.2.1 M_X7_thrown.2.2.2.1 M_X7_thrown.2.2.2.2.1 M_X7_thrown.2.2.2.2.2.1 M_X7_thrown.2.2.2.2.2.2 X) (n : Nat) {pc : Nat} {lv : gL} {st : List Value} {h : gH} {kc ks : Nat} (k : grun P_X7_thrown S_X7_thrown (gd 1 X Q) Q n pc lv st h kc ks) : gd 1 X Q pc lv st h kc ks := grun_ok PS_X7_thrown hC S_X7_thrown n pc lv st h kc ks k
theorem sp_X7_thrown : gSp 1 0 0 yX7_thrown [.code yX7_thrown cX7_thrown 1 (some .int)] T_X7_thrown := by
  refine gEntry (by decide +kernel) (fun av h Q hT => ?_) (fun X Q hC av h hT => ?_)
  · obtain ⟨am, th, nu, nr, nm, now, rf, wk, y, tk, rfl, -⟩ := hT
    exact Nat.le_of_ble_eq_true rfl
  · obtain ⟨am, th, nu, nr, nm, now, rf, wk, y, tk, rfl, hh, k⟩ := hT
    refine go_X7_thrown hC 60 (lv := [some (.ref (am 0))]) ?_
    simp (disch := omega) only [PE_X7_thrown, PN_X7_thrown, gi_ald, gi_getf, gi_iret, gRcv, List.getElem?_cons_zero, List.getElem?_cons_succ, Nat.reduceAdd, Nat.reduceSub, Nat.reduceLT, Nat.reduceLeDiff, Nat.reduceEqDiff, List.length_cons, List.length_nil, List.set_cons_zero, List.set_cons_succ, gst1, gst2, gcl, Value.category, reduceIte, List.drop_succ_cons, List.drop_zero, List.drop_nil, List.take_succ_cons, List.take_zero, List.take_nil, List.reverse_cons, List.reverse_nil, List.nil_append, List.cons_append, List.map_cons, List.map_nil, List.sum_cons, List.sum_nil, gmask, gcont, Option.toList, true_and, and_true, okf_int, okf_float, okf_ref, okf_null, okf_arr, okf_bool, okf_true, okf_false, Nat.zero_le, Nat.sub_zero, grv, gset_gset, gset_d2, gset_d3, gset_d4, nI_add, nsub, pk_mul, nlt, nle, neq, nlt0, ngt0, nle0, nge0, neq0, npred, nneg1, ncl, vin, vnarc, narc, nar_b0, nar_b1, not_true_eq_false, not_false_eq_true, false_implies, true_implies, implies_true, ite_true, ite_false, Bool.false_eq_true, mk_shl, mk_or, mk_and, hh.1]
    exact k
def T_X7_fails : gPT := fun av h Q => ∃ (am : Nat → Nat) (th c : Int32) (nu nr nm now rf wk : Nat) (y : Nat → Nat → Int32) (tk : Nat → UInt32), av = [.ref (am 0), .int c] ∧ hR h am th nu nr nm now rf wk y tk ∧ ∀ h1, hR h1 am c nu nr nm now rf wk y tk → gfm h h1 → Q (.inl (some (.int (nI 0)))) h1
abbrev M_X7_fails : gM := (RX7, cX7_fails, 2, (some .int), "fails", [], 1)
def L_X7_fails : List (Nat × gOp) := [(0, gi_ald 0 1), (1, gi_ild 1 1), (2, gi_putf 10 0 .int), (5, gi_k (.int (nI 0)) 1), (6, gi_iret)]
def P_X7_fails : Nat → gOp := gtab L_X7_fails
theorem PS_X7_fails : ∀ pc, gSnd M_X7_fails pc (P_X7_fails pc) := gtab_ok (
  List.forall_mem_cons.mpr ⟨gs_aload_n (show decode cX7_fails 0 = .ok (.aload_n 0, 1) by decide +kernel) rfl,
  List.forall_mem_cons.mpr ⟨gs_iload_n (show decode cX7_fails 1 = .ok (.iload_n 1, 1) by decide +kernel) rfl,
  List.forall_mem_cons.mpr ⟨gs_putf (ref := "InglenookModel") gKX7 (by decide) (show decode cX7_fails 2 = .ok (.putfield 70, 3) by decide +kernel) (lw_in 1243 (by decide +kernel)) (Or.inl rfl) rfl rfl,
  List.forall_mem_cons.mpr ⟨gs_iconst (show decode cX7_fails 5 = .ok (.iconst 0, 1) by decide +kernel) (by decide +kernel),
  List.forall_mem_cons.mpr ⟨gs_iret (show decode cX7_fails 6 = .ok (.ireturn, 1) by decide +kernel) rfl, fun _ h => absurd h List.not_mem_nil⟩⟩⟩⟩⟩)
def S_X7_fails : Nat → Option (List Bool) := fun pc => none
theorem PE_X7_fails (K : gK) (Q : gQ) (n : Nat) (lv : gL) (st : List Value) (h : gH) (kc ks : Nat) : grun P_X7_fails S_X7_fails K Q (n + 1) 0 lv st h kc ks = gi_ald 0 1 (gnx P_X7_fails S_X7_fails K Q n) Q 0 lv st h kc ks ∧ grun P_X7_fails S_X7_fails K Q (n + 1) 1 lv st h kc ks = gi_ild 1 1 (gnx P_X7_fails S_X7_fails K Q n) Q 1 lv st h kc ks ∧ grun P_X7_fails S_X7_fails K Q (n + 1) 2 lv st h kc ks = gi_putf 10 0 .int (gnx P_X7_fails S_X7_fails K Q n) Q 2 lv st h kc ks ∧ grun P_X7_fails S_X7_fails K Q (n + 1) 5 lv st h kc ks = gi_k (.int (nI 0)) 1 (gnx P_X7_fails S_X7_fails K Q n) Q 5 lv st h kc ks ∧ grun P_X7_fails S_X7_fails K Q (n + 1) 6 lv st h kc ks = gi_iret (gnx P_X7_fails S_X7_fails K Q n) Q 6 lv st h kc ks := ⟨rfl, rfl, rfl, rfl, rfl⟩
theorem PN_X7_fails (K : gK) (Q : gQ) (n : Nat) (lv : gL) (st : List Value) (h : gH) (kc ks : Nat) : gnx P_X7_fails S_X7_fails K Q n 0 lv st h kc ks = grun P_X7_fails S_X7_fails K Q n 0 lv st h kc ks ∧ gnx P_X7_fails S_X7_fails K Q n 1 lv st h kc ks = grun P_X7_fails S_X7_fails K Q n 1 lv st h kc ks ∧ gnx P_X7_fails S_X7_fails K Q n 2 lv st h kc ks = grun P_X7_fails S_X7_fails K Q n 2 lv st h kc ks ∧ gnx P_X7_fails S_X7_fails K Q n 5 lv st h kc ks = grun P_X7_fails S_X7_fails K Q n 5 lv st h kc ks ∧ gnx P_X7_fails S_X7_fails K Q n 6 lv st h kc ks = grun P_X7_fails S_X7_fails K Q n 6 lv st h kc ks := ⟨rfl, rfl, rfl, rfl, rfl⟩
theorem go_X7_fails {X : gX} {Q : gQ} (hC : gC M_X7_fails.1 M_X7_fails.2.1 M_X7_fails.2.2.1 M_X7_fails.2.2.2.1 M_X7_fails.2.2.2.2.1 M_X7_fails.2.2.2.2.2.1 M_X7_fails.2.2.2.2.2.2 X) (n : Nat) {pc : Nat} {lv : gL} {st : List Value} {h : gH} {kc ks : Nat} (k : grun P_X7_fails S_X7_fails (gd 2 X Q) Q n pc lv st h kc ks) : gd 2 X Q pc lv st h kc ks := grun_ok PS_X7_fails hC S_X7_fails n pc lv st h kc ks k
theorem sp_X7_fails : gSp 1 0 0 yX7_fails [.code yX7_fails cX7_fails 2 (some .int)] T_X7_fails := by
  refine gEntry (by decide +kernel) (fun av h Q hT => ?_) (fun X Q hC av h hT => ?_)
  · obtain ⟨am, th, c, nu, nr, nm, now, rf, wk, y, tk, rfl, -⟩ := hT
    exact Nat.le_of_ble_eq_true rfl
  · obtain ⟨am, th, c, nu, nr, nm, now, rf, wk, y, tk, rfl, hh, k⟩ := hT
    refine go_X7_fails hC 60 (lv := [some (.ref (am 0)), some (.int c)]) ?_
    simp (disch := omega) only [PE_X7_fails, PN_X7_fails, gi_ald, gi_ild, gi_iret, gi_k, gi_putf, gRcv, List.getElem?_cons_zero, List.getElem?_cons_succ, Nat.reduceAdd, Nat.reduceSub, Nat.reduceLT, Nat.reduceLeDiff, Nat.reduceEqDiff, List.length_cons, List.length_nil, List.set_cons_zero, List.set_cons_succ, gst1, gst2, gcl, Value.category, reduceIte, List.drop_succ_cons, List.drop_zero, List.drop_nil, List.take_succ_cons, List.take_zero, List.take_nil, List.reverse_cons, List.reverse_nil, List.nil_append, List.cons_append, List.map_cons, List.map_nil, List.sum_cons, List.sum_nil, gmask, gcont, Option.toList, true_and, and_true, okf_int, okf_float, okf_ref, okf_null, okf_arr, okf_bool, okf_true, okf_false, Nat.zero_le, Nat.sub_zero, grv, gset_gset, gset_d2, gset_d3, gset_d4, nI_add, nsub, pk_mul, nlt, nle, neq, nlt0, ngt0, nle0, nge0, neq0, npred, nneg1, ncl, vin, vnarc, narc, nar_b0, nar_b1, not_true_eq_false, not_false_eq_true, false_implies, true_implies, implies_true, ite_true, ite_false, Bool.false_eq_true, mk_shl, mk_or, mk_and, hh.1, okf_int]
    exact k _ (hh.ob c nu nr nm now rf wk).1 (hh.ob c nu nr nm now rf wk).2
def T_X7_isUser : gPT := fun av h Q => ∃ (am : Nat → Nat) (th u : Int32) (nu nr nm now rf wk : Nat) (y : Nat → Nat → Int32) (tk : Nat → UInt32), av = [.ref (am 0), .int u] ∧ hR h am th nu nr nm now rf wk y tk ∧ nu < 1000 ∧ (gix nu u = none → Q (.inl (some (.int (nI 0)))) h) ∧ (∀ i, gix nu u = some i → Q (.inl (some (.int (nI 1)))) h)
abbrev M_X7_isUser : gM := (RX7, cX7_isUser, 2, (some .boolean), "isUser", [], 2)
def L_X7_isUser : List (Nat × gOp) := [(0, gi_ild 1 1), (1, gi_k (.int (nI 0)) 1), (2, gi_ald 0 1), (3, gi_getf 10 1), (6, gi_k (.int (nI 1)) 1), (7, gi_isub), (8, gi_call 3 0 0 T_X7_in), (11, gi_zret .boolean)]
def P_X7_isUser : Nat → gOp := gtab L_X7_isUser
theorem PS_X7_isUser : ∀ pc, gSnd M_X7_isUser pc (P_X7_isUser pc) := gtab_ok (
  List.forall_mem_cons.mpr ⟨gs_iload_n (show decode cX7_isUser 0 = .ok (.iload_n 1, 1) by decide +kernel) rfl,
  List.forall_mem_cons.mpr ⟨gs_iconst (show decode cX7_isUser 1 = .ok (.iconst 0, 1) by decide +kernel) (by decide +kernel),
  List.forall_mem_cons.mpr ⟨gs_aload_n (show decode cX7_isUser 2 = .ok (.aload_n 0, 1) by decide +kernel) rfl,
  List.forall_mem_cons.mpr ⟨gs_getf (ref := "InglenookModel") gKX7 (by decide) (show decode cX7_isUser 3 = .ok (.getfield 73, 3) by decide +kernel) (lw_in 1244 (by decide +kernel)) (Or.inl rfl),
  List.forall_mem_cons.mpr ⟨gs_iconst (show decode cX7_isUser 6 = .ok (.iconst 1, 1) by decide +kernel) (by decide +kernel),
  List.forall_mem_cons.mpr ⟨gs_isub (show decode cX7_isUser 7 = .ok (.isub, 1) by decide +kernel),
  List.forall_mem_cons.mpr ⟨gs_callS sp_X7_in rfl (show decode cX7_isUser 8 = .ok (.invokestatic 76, 3) by decide +kernel) (by decide) (by decide) (lw_in 1347 (by decide +kernel)) (lw_in 43 (by decide +kernel)) (lw_in 1345 (by decide +kernel)) (lw_in 1346 (by decide +kernel)) (by decide +kernel),
  List.forall_mem_cons.mpr ⟨gs_zret (show decode cX7_isUser 11 = .ok (.ireturn, 1) by decide +kernel) rfl, fun _ h => absurd h List.not_mem_nil⟩⟩⟩⟩⟩⟩⟩⟩)
def S_X7_isUser : Nat → Option (List Bool) := fun pc => none
theorem PE_X7_isUser (K : gK) (Q : gQ) (n : Nat) (lv : gL) (st : List Value) (h : gH) (kc ks : Nat) : grun P_X7_isUser S_X7_isUser K Q (n + 1) 0 lv st h kc ks = gi_ild 1 1 (gnx P_X7_isUser S_X7_isUser K Q n) Q 0 lv st h kc ks ∧ grun P_X7_isUser S_X7_isUser K Q (n + 1) 1 lv st h kc ks = gi_k (.int (nI 0)) 1 (gnx P_X7_isUser S_X7_isUser K Q n) Q 1 lv st h kc ks ∧ grun P_X7_isUser S_X7_isUser K Q (n + 1) 2 lv st h kc ks = gi_ald 0 1 (gnx P_X7_isUser S_X7_isUser K Q n) Q 2 lv st h kc ks ∧ grun P_X7_isUser S_X7_isUser K Q (n + 1) 3 lv st h kc ks = gi_getf 10 1 (gnx P_X7_isUser S_X7_isUser K Q n) Q 3 lv st h kc ks ∧ grun P_X7_isUser S_X7_isUser K Q (n + 1) 6 lv st h kc ks = gi_k (.int (nI 1)) 1 (gnx P_X7_isUser S_X7_isUser K Q n) Q 6 lv st h kc ks ∧ grun P_X7_isUser S_X7_isUser K Q (n + 1) 7 lv st h kc ks = gi_isub (gnx P_X7_isUser S_X7_isUser K Q n) Q 7 lv st h kc ks ∧ grun P_X7_isUser S_X7_isUser K Q (n + 1) 8 lv st h kc ks = gi_call 3 0 0 T_X7_in (gnx P_X7_isUser S_X7_isUser K Q n) Q 8 lv st h kc ks ∧ grun P_X7_isUser S_X7_isUser K Q (n + 1) 11 lv st h kc ks = gi_zret .boolean (gnx P_X7_isUser S_X7_isUser K Q n) Q 11 lv st h kc ks := ⟨rfl, rfl, rfl, rfl, rfl, rfl, rfl, rfl⟩
theorem PN_X7_isUser (K : gK) (Q : gQ) (n : Nat) (lv : gL) (st : List Value) (h : gH) (kc ks : Nat) : gnx P_X7_isUser S_X7_isUser K Q n 0 lv st h kc ks = grun P_X7_isUser S_X7_isUser K Q n 0 lv st h kc ks ∧ gnx P_X7_isUser S_X7_isUser K Q n 1 lv st h kc ks = grun P_X7_isUser S_X7_isUser K Q n 1 lv st h kc ks ∧ gnx P_X7_isUser S_X7_isUser K Q n 2 lv st h kc ks = grun P_X7_isUser S_X7_isUser K Q n 2 lv st h kc ks ∧ gnx P_X7_isUser S_X7_isUser K Q n 3 lv st h kc ks = grun P_X7_isUser S_X7_isUser K Q n 3 lv st h kc ks ∧ gnx P_X7_isUser S_X7_isUser K Q n 6 lv st h kc ks = grun P_X7_isUser S_X7_isUser K Q n 6 lv st h kc ks ∧ gnx P_X7_isUser S_X7_isUser K Q n 7 lv st h kc ks = grun P_X7_isUser S_X7_isUser K Q n 7 lv st h kc ks ∧ gnx P_X7_isUser S_X7_isUser K Q n 8 lv st h kc ks = grun P_X7_isUser S_X7_isUser K Q n 8 lv st h kc ks ∧ gnx P_X7_isUser S_X7_isUser K Q n 11 lv st h kc ks = grun P_X7_isUser S_X7_isUser K Q n 11 lv st h kc ks := ⟨rfl, rfl, rfl, rfl, rfl, rfl, rfl, rfl⟩
theorem go_X7_isUser {X : gX} {Q : gQ} (hC : gC M_X7_isUser.1 M_X7_isUser.2.1 M_X7_isUser.2.2.1 M_X7_isUser.2.2.2.1 M_X7_isUser.2.2.2.2.1 M_X7_isUser.2.2.2.2.2.1 M_X7_isUser.2.2.2.2.2.2 X) (n : Nat) {pc : Nat} {lv : gL} {st : List Value} {h : gH} {kc ks : Nat} (k : grun P_X7_isUser S_X7_isUser (gd 2 X Q) Q n pc lv st h kc ks) : gd 2 X Q pc lv st h kc ks := grun_ok PS_X7_isUser hC S_X7_isUser n pc lv st h kc ks k
theorem sp_X7_isUser : gSp 2 0 0 yX7_isUser [.code yX7_isUser cX7_isUser 2 (some .boolean)] T_X7_isUser := by
  refine gEntry (by decide +kernel) (fun av h Q hT => ?_) (fun X Q hC av h hT => ?_)
  · obtain ⟨am, th, u, nu, nr, nm, now, rf, wk, y, tk, rfl, -⟩ := hT
    exact Nat.le_of_ble_eq_true rfl
  · obtain ⟨am, th, u, nu, nr, nm, now, rf, wk, y, tk, rfl, hh, hn, k⟩ := hT
    refine go_X7_isUser hC 60 (lv := [some (.ref (am 0)), some (.int u)]) ?_
    simp (disch := omega) only [PE_X7_isUser, PN_X7_isUser, gi_ald, gi_call, gi_getf, gi_ild, gi_isub, gi_k, gi_zret, gRcv, List.getElem?_cons_zero, List.getElem?_cons_succ, Nat.reduceAdd, Nat.reduceSub, Nat.reduceLT, Nat.reduceLeDiff, Nat.reduceEqDiff, List.length_cons, List.length_nil, List.set_cons_zero, List.set_cons_succ, gst1, gst2, gcl, Value.category, reduceIte, List.drop_succ_cons, List.drop_zero, List.drop_nil, List.take_succ_cons, List.take_zero, List.take_nil, List.reverse_cons, List.reverse_nil, List.nil_append, List.cons_append, List.map_cons, List.map_nil, List.sum_cons, List.sum_nil, gmask, gcont, Option.toList, true_and, and_true, okf_int, okf_float, okf_ref, okf_null, okf_arr, okf_bool, okf_true, okf_false, Nat.zero_le, Nat.sub_zero, grv, gset_gset, gset_d2, gset_d3, gset_d4, nI_add, nsub, pk_mul, nlt, nle, neq, nlt0, ngt0, nle0, nge0, neq0, npred, nneg1, ncl, vin, vnarc, narc, nar_b0, nar_b1, not_true_eq_false, not_false_eq_true, false_implies, true_implies, implies_true, ite_true, ite_false, Bool.false_eq_true, mk_shl, mk_or, mk_and, hh.1]
    refine ⟨u, nI 0, nI nu - nI 1, rfl, fun z => ?_, fun z => ?_⟩
    · obtain ⟨i, hi⟩ := (gix_in (by omega)).mp z
      simp (disch := omega) only [PE_X7_isUser, PN_X7_isUser, gi_ald, gi_call, gi_getf, gi_ild, gi_isub, gi_k, gi_zret, gRcv, List.getElem?_cons_zero, List.getElem?_cons_succ, Nat.reduceAdd, Nat.reduceSub, Nat.reduceLT, Nat.reduceLeDiff, Nat.reduceEqDiff, List.length_cons, List.length_nil, List.set_cons_zero, List.set_cons_succ, gst1, gst2, gcl, Value.category, reduceIte, List.drop_succ_cons, List.drop_zero, List.drop_nil, List.take_succ_cons, List.take_zero, List.take_nil, List.reverse_cons, List.reverse_nil, List.nil_append, List.cons_append, List.map_cons, List.map_nil, List.sum_cons, List.sum_nil, gmask, gcont, Option.toList, true_and, and_true, okf_int, okf_float, okf_ref, okf_null, okf_arr, okf_bool, okf_true, okf_false, Nat.zero_le, Nat.sub_zero, grv, gset_gset, gset_d2, gset_d3, gset_d4, nI_add, nsub, pk_mul, nlt, nle, neq, nlt0, ngt0, nle0, nge0, neq0, npred, nneg1, ncl, vin, vnarc, narc, nar_b0, nar_b1, not_true_eq_false, not_false_eq_true, false_implies, true_implies, implies_true, ite_true, ite_false, Bool.false_eq_true, mk_shl, mk_or, mk_and]
      exact k.2 i hi
    · have hz : gix nu u = none := by
        cases hg : gix nu u with
        | none => rfl
        | some i => exact absurd ((gix_in (by omega)).mpr ⟨i, hg⟩) z
      simp (disch := omega) only [PE_X7_isUser, PN_X7_isUser, gi_ald, gi_call, gi_getf, gi_ild, gi_isub, gi_k, gi_zret, gRcv, List.getElem?_cons_zero, List.getElem?_cons_succ, Nat.reduceAdd, Nat.reduceSub, Nat.reduceLT, Nat.reduceLeDiff, Nat.reduceEqDiff, List.length_cons, List.length_nil, List.set_cons_zero, List.set_cons_succ, gst1, gst2, gcl, Value.category, reduceIte, List.drop_succ_cons, List.drop_zero, List.drop_nil, List.take_succ_cons, List.take_zero, List.take_nil, List.reverse_cons, List.reverse_nil, List.nil_append, List.cons_append, List.map_cons, List.map_nil, List.sum_cons, List.sum_nil, gmask, gcont, Option.toList, true_and, and_true, okf_int, okf_float, okf_ref, okf_null, okf_arr, okf_bool, okf_true, okf_false, Nat.zero_le, Nat.sub_zero, grv, gset_gset, gset_d2, gset_d3, gset_d4, nI_add, nsub, pk_mul, nlt, nle, neq, nlt0, ngt0, nle0, nge0, neq0, npred, nneg1, ncl, vin, vnarc, narc, nar_b0, nar_b1, not_true_eq_false, not_false_eq_true, false_implies, true_implies, implies_true, ite_true, ite_false, Bool.false_eq_true, mk_shl, mk_or, mk_and]
      exact k.1 hz
