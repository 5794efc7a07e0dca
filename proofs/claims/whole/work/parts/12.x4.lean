/-! Text -/
def T_X4_drop : gPT := fun av h Q => ∃ (a t : Nat) (sg x : Value), av = [.ref a] ∧ h a = some (true, t, .inr (.inl (7, [sg, x]))) ∧ Q (.inl none) (gset h a (true, t, .inr (.inl (7, [sg, .int (nI 0)]))))
abbrev M_X4_drop : gM := (RX4, cX4_drop, 1, none, "drop", [], 1)
def L_X4_drop : List (Nat × gOp) := [(0, gi_ald 0 1), (1, gi_k (.int (nI 0)) 1), (2, gi_putf 7 1 .int), (5, gi_vret)]
def P_X4_drop : Nat → gOp := gtab L_X4_drop
theorem PS_X4_drop : ∀ pc, gSnd M_X4_drop pc (P_X4_drop pc) := gtab_ok (
  List.forall_mem_cons.mpr ⟨gs_aload_n (show decode cX4_drop 0 = .ok (.aload_n 0, 1) by decide +kernel) rfl,
  List.forall_mem_cons.mpr ⟨gs_iconst (show decode cX4_drop 1 = .ok (.iconst 0, 1) by decide +kernel) (by decide +kernel),
  List.forall_mem_cons.mpr ⟨gs_putf (ref := "Inglenook$Text") gKX4 (by decide) (show decode cX4_drop 2 = .ok (.putfield 15, 3) by decide +kernel) (lw_in 275 (by decide +kernel)) (Or.inl rfl) rfl rfl,
  List.forall_mem_cons.mpr ⟨gs_vret (show decode cX4_drop 5 = .ok (.return_, 1) by decide +kernel) rfl, fun _ h => absurd h List.not_mem_nil⟩⟩⟩⟩)
def S_X4_drop : Nat → Option (List Bool) := fun pc => none
theorem PE_X4_drop (K : gK) (Q : gQ) (n : Nat) (lv : gL) (st : List Value) (h : gH) (kc ks : Nat) : grun P_X4_drop S_X4_drop K Q (n + 1) 0 lv st h kc ks = gi_ald 0 1 (gnx P_X4_drop S_X4_drop K Q n) Q 0 lv st h kc ks ∧ grun P_X4_drop S_X4_drop K Q (n + 1) 1 lv st h kc ks = gi_k (.int (nI 0)) 1 (gnx P_X4_drop S_X4_drop K Q n) Q 1 lv st h kc ks ∧ grun P_X4_drop S_X4_drop K Q (n + 1) 2 lv st h kc ks = gi_putf 7 1 .int (gnx P_X4_drop S_X4_drop K Q n) Q 2 lv st h kc ks ∧ grun P_X4_drop S_X4_drop K Q (n + 1) 5 lv st h kc ks = gi_vret (gnx P_X4_drop S_X4_drop K Q n) Q 5 lv st h kc ks := ⟨rfl, rfl, rfl, rfl⟩
theorem PN_X4_drop (K : gK) (Q : gQ) (n : Nat) (lv : gL) (st : List Value) (h : gH) (kc ks : Nat) : gnx P_X4_drop S_X4_drop K Q n 0 lv st h kc ks = grun P_X4_drop S_X4_drop K Q n 0 lv st h kc ks ∧ gnx P_X4_drop S_X4_drop K Q n 1 lv st h kc ks = grun P_X4_drop S_X4_drop K Q n 1 lv st h kc ks ∧ gnx P_X4_drop S_X4_drop K Q n 2 lv st h kc ks = grun P_X4_drop S_X4_drop K Q n 2 lv st h kc ks ∧ gnx P_X4_drop S_X4_drop K Q n 5 lv st h kc ks = grun P_X4_drop S_X4_drop K Q n 5 lv st h kc ks := ⟨rfl, rfl, rfl, rfl⟩
theorem go_X4_drop {X : gX} {Q : gQ} (hC : gC M_X4_drop.1 M_X4_drop.2.1 M_X4_drop.2.2.1 M_X4_drop.2.2.2.1 M_X4_drop.2.2.2.2.1 M_X4_drop.2.2.2.2.2.1 M_X4_drop.2.2.2.2.2.2 X) (n : Nat) {pc : Nat} {lv : gL} {st : List Value} {h : gH} {kc ks : Nat} (k : grun P_X4_drop S_X4_drop (gd 1 X Q) Q n pc lv st h kc ks) : gd 1 X Q pc lv st h kc ks := grun_ok PS_X4_drop hC S_X4_drop n pc lv st h kc ks k
theorem sp_X4_drop : gSp 1 0 0 yX4_drop [.code yX4_drop cX4_drop 1 none] T_X4_drop := by
  refine gEntry (by decide +kernel) (fun av h Q hT => ?_) (fun X Q hC av h hT => ?_)
  · obtain ⟨a, t, sg, x, rfl, -⟩ := hT
    exact Nat.le_refl _
  · obtain ⟨a, t, sg, x, rfl, hq, k⟩ := hT
    refine go_X4_drop hC 10 (lv := [some (.ref a)]) ?_
    simp only [PE_X4_drop, PN_X4_drop, gi_ald, gi_k, gi_putf, gi_vret, gRcv, List.getElem?_cons_zero, List.getElem?_cons_succ, Nat.reduceAdd, Nat.reduceSub, Nat.reduceLT, Nat.reduceLeDiff, Nat.reduceEqDiff, List.length_cons, List.length_nil, List.set_cons_zero, List.set_cons_succ, gst1, gst2, gcl, Value.category, reduceIte, List.drop_succ_cons, List.drop_zero, List.drop_nil, List.take_succ_cons, List.take_zero, List.take_nil, List.reverse_cons, List.reverse_nil, List.nil_append, List.cons_append, List.map_cons, List.map_nil, List.sum_cons, List.sum_nil, gmask, gcont, Option.toList, true_and, and_true, okf_int, okf_float, okf_ref, okf_null, okf_arr, okf_bool, okf_true, okf_false, Nat.zero_le, Nat.sub_zero, grv, hq]
    exact k
