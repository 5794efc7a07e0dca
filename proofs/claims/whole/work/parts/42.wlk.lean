/-! walks -/
theorem paI_eq {p : Option Nat} {m : Nat} (hm : m < 1000) (hp : ∀ q, p = some q → q < 1000) : (paI p = nI m) = (p = some m) := by
  cases p with
  | none => exact propext ⟨fun q => absurd q (by show ¬ (-1 : Int32) = nI m; intro z; have := nneg1 (a := m) (by omega); rw [← z] at this; simp at this), fun q => by cases q⟩
  | some q =>
    have h1 := hp q rfl
    show (nI q = nI m) = _
    rw [neq (by omega) (by omega)]
    exact propext ⟨fun z => by rw [z], fun z => Option.some.inj z⟩
def kidsTo (x : gS) (m q : Nat) : List Nat := (List.range' (m + 1) (q - (m + 1))).filter (fun q => g_pa x q == some m)
theorem kidsTo_0 {x : gS} {m : Nat} : kidsTo x m (m + 1) = [] := by
  unfold kidsTo
  rw [Nat.sub_self]
  rfl
theorem kidsTo_sn {x : gS} {m q : Nat} (h : m < q) : kidsTo x m (q + 1) = kidsTo x m q ++ (if g_pa x q = some m then [q] else []) := by
  unfold kidsTo
  rw [show q + 1 - (m + 1) = (q - (m + 1)) + 1 by omega, List.range'_concat, List.filter_append, List.filter_cons, List.filter_nil, Nat.one_mul, show m + 1 + (q - (m + 1)) = q by omega]
  by_cases hq : g_pa x q = some m
  · rw [if_pos hq, if_pos (by rw [hq]; exact beq_self_eq_true _)]
  · rw [if_neg hq, if_neg (by simpa using hq)]
theorem kidsTo_le {x : gS} {m : Nat} (f : Nat → List Nat) : ∀ k q, ((kidsTo x m q).flatMap f).length ≤ ((kidsTo x m (q + k)).flatMap f).length
  | 0, q => Nat.le_refl _
  | k + 1, q => by
    refine Nat.le_trans (kidsTo_le f k q) ?_
    by_cases h : m < q + k
    · rw [show q + (k + 1) = q + k + 1 from rfl, kidsTo_sn h, List.flatMap_append, List.length_append]
      exact Nat.le_add_right _ _
    · unfold kidsTo
      rw [show q + k - (m + 1) = 0 by omega]
      exact Nat.zero_le _
/-- what walks does, at fuel n -/
def TW : Nat → gPT
  | 0 => fun _ _ _ => False
  | n + 1 => fun av h Q => ∃ (am : Nat → Nat) (th : Int32) (m wk : Nat) (x : gS) (nu nr now rf : Nat) (y : Nat → Nat → Int32) (tk : Nat → UInt32), av = [.ref (am 0), .int (nI m)] ∧ hR h am th nu nr (g_nm x) now rf wk y tk ∧ g_nm x ≤ 60 ∧ (∀ q, q < g_nm x → y 14 q = paI (g_pa x q) ∧ ∀ p, g_pa x q = some p → p < q) ∧ m < g_nm x ∧ g_nm x - m ≤ n + 1 ∧ wk + (wkF x n m).length ≤ 60 ∧ ∀ h1 y1, hR h1 am th nu nr (g_nm x) now rf (wk + (wkF x n m).length) y1 tk → (∀ k, k ≠ 18 → y1 k = y k) → (∀ j, j < wk → y1 18 j = y 18 j) → (∀ j, j < (wkF x n m).length → y1 18 (wk + j) = nI ((wkF x n m).getD j 0)) → gfm h h1 → Q (.inl none) h1
abbrev M_X7_walks (n : Nat) : gM := (RX7, cX7_walks, 3, none, "walks", [], n + 2)
def L_X7_walks (n : Nat) : List (Nat × gOp) := [(0, gi_ald 0 1), (1, gi_getf 10 23), (4, gi_ald 0 1), (5, gi_getf 10 24), (8, gi_ild 1 1), (9, gi_iast), (10, gi_ald 0 1), (11, gi_dup), (12, gi_getf 10 24), (15, gi_k (.int (nI 1)) 1), (16, gi_iadd), (17, gi_putf 10 24 .int), (20, gi_ild 1 1), (21, gi_k (.int (nI 1)) 1), (22, gi_iadd), (23, gi_ist 2 1), (24, gi_ild 2 1), (25, gi_ald 0 1), (26, gi_getf 10 3), (29, gi_ic_ge 53), (32, gi_ald 0 1), (33, gi_getf 10 19), (36, gi_ild 2 1), (37, gi_iald), (38, gi_ild 1 1), (39, gi_ic_ne 47), (42, gi_ald 0 1), (43, gi_ild 2 1), (44, gi_callV 10 1 0 0 (TW n)), (47, gi_iinc 2 (nI 1)), (50, gi_goto 24), (53, gi_vret)]
def P_X7_walks (n : Nat) : Nat → gOp := gtab (L_X7_walks n)
theorem PS_X7_walks (n : Nat) (ih : gSp (n + 1) 0 0 yX7_walks [.code yX7_walks cX7_walks 3 none] (TW n)) : ∀ pc, gSnd (M_X7_walks n) pc (P_X7_walks n pc) := gtab_ok (
  List.forall_mem_cons.mpr ⟨gs_aload_n (show decode cX7_walks 0 = .ok (.aload_n 0, 1) by decide +kernel) rfl,
  List.forall_mem_cons.mpr ⟨gs_getf (ref := "InglenookModel") gKX7 (by decide) (show decode cX7_walks 1 = .ok (.getfield 67, 3) by decide +kernel) (lw_in 1266 (by decide +kernel)) (Or.inl rfl),
  List.forall_mem_cons.mpr ⟨gs_aload_n (show decode cX7_walks 4 = .ok (.aload_n 0, 1) by decide +kernel) rfl,
  List.forall_mem_cons.mpr ⟨gs_getf (ref := "InglenookModel") gKX7 (by decide) (show decode cX7_walks 5 = .ok (.getfield 155, 3) by decide +kernel) (lw_in 1267 (by decide +kernel)) (Or.inl rfl),
  List.forall_mem_cons.mpr ⟨gs_iload_n (show decode cX7_walks 8 = .ok (.iload_n 1, 1) by decide +kernel) rfl,
  List.forall_mem_cons.mpr ⟨gs_iast (show decode cX7_walks 9 = .ok (.iastore, 1) by decide +kernel),
  List.forall_mem_cons.mpr ⟨gs_aload_n (show decode cX7_walks 10 = .ok (.aload_n 0, 1) by decide +kernel) rfl,
  List.forall_mem_cons.mpr ⟨gs_dup (show decode cX7_walks 11 = .ok (.dup, 1) by decide +kernel),
  List.forall_mem_cons.mpr ⟨gs_getf (ref := "InglenookModel") gKX7 (by decide) (show decode cX7_walks 12 = .ok (.getfield 155, 3) by decide +kernel) (lw_in 1267 (by decide +kernel)) (Or.inl rfl),
  List.forall_mem_cons.mpr ⟨gs_iconst (show decode cX7_walks 15 = .ok (.iconst 1, 1) by decide +kernel) (by decide +kernel),
  List.forall_mem_cons.mpr ⟨gs_iadd (show decode cX7_walks 16 = .ok (.iadd, 1) by decide +kernel),
  List.forall_mem_cons.mpr ⟨gs_putf (ref := "InglenookModel") gKX7 (by decide) (show decode cX7_walks 17 = .ok (.putfield 155, 3) by decide +kernel) (lw_in 1267 (by decide +kernel)) (Or.inl rfl) rfl rfl,
  List.forall_mem_cons.mpr ⟨gs_iload_n (show decode cX7_walks 20 = .ok (.iload_n 1, 1) by decide +kernel) rfl,
  List.forall_mem_cons.mpr ⟨gs_iconst (show decode cX7_walks 21 = .ok (.iconst 1, 1) by decide +kernel) (by decide +kernel),
  List.forall_mem_cons.mpr ⟨gs_iadd (show decode cX7_walks 22 = .ok (.iadd, 1) by decide +kernel),
  List.forall_mem_cons.mpr ⟨gs_istore_n (show decode cX7_walks 23 = .ok (.istore_n 2, 1) by decide +kernel) rfl (by decide),
  List.forall_mem_cons.mpr ⟨gs_iload_n (show decode cX7_walks 24 = .ok (.iload_n 2, 1) by decide +kernel) rfl,
  List.forall_mem_cons.mpr ⟨gs_aload_n (show decode cX7_walks 25 = .ok (.aload_n 0, 1) by decide +kernel) rfl,
  List.forall_mem_cons.mpr ⟨gs_getf (ref := "InglenookModel") gKX7 (by decide) (show decode cX7_walks 26 = .ok (.getfield 83, 3) by decide +kernel) (lw_in 1246 (by decide +kernel)) (Or.inl rfl),
  List.forall_mem_cons.mpr ⟨gs_ic_ge (show decode cX7_walks 29 = .ok (.if_icmp .ge 24, 3) by decide +kernel) (by decide),
  List.forall_mem_cons.mpr ⟨gs_aload_n (show decode cX7_walks 32 = .ok (.aload_n 0, 1) by decide +kernel) rfl,
  List.forall_mem_cons.mpr ⟨gs_getf (ref := "InglenookModel") gKX7 (by decide) (show decode cX7_walks 33 = .ok (.getfield 54, 3) by decide +kernel) (lw_in 1262 (by decide +kernel)) (Or.inl rfl),
  List.forall_mem_cons.mpr ⟨gs_iload_n (show decode cX7_walks 36 = .ok (.iload_n 2, 1) by decide +kernel) rfl,
  List.forall_mem_cons.mpr ⟨gs_iald (show decode cX7_walks 37 = .ok (.iaload, 1) by decide +kernel),
  List.forall_mem_cons.mpr ⟨gs_iload_n (show decode cX7_walks 38 = .ok (.iload_n 1, 1) by decide +kernel) rfl,
  List.forall_mem_cons.mpr ⟨gs_ic_ne (show decode cX7_walks 39 = .ok (.if_icmp .ne 8, 3) by decide +kernel) (by decide),
  List.forall_mem_cons.mpr ⟨gs_aload_n (show decode cX7_walks 42 = .ok (.aload_n 0, 1) by decide +kernel) rfl,
  List.forall_mem_cons.mpr ⟨gs_iload_n (show decode cX7_walks 43 = .ok (.iload_n 2, 1) by decide +kernel) rfl,
  List.forall_mem_cons.mpr ⟨gs_callV gKX7 ih rfl (show decode cX7_walks 44 = .ok (.invokevirtual 158, 3) by decide +kernel) (Nat.le_refl _) (by decide) (lw_in 1579 (by decide +kernel)) (lw_in 43 (by decide +kernel)) (lw_in 1576 (by decide +kernel)) (lw_in 1578 (by decide +kernel)) (lw_in 34 (by decide +kernel)) (by decide +kernel),
  List.forall_mem_cons.mpr ⟨gs_iinc (show decode cX7_walks 47 = .ok (.iinc 2 1, 3) by decide +kernel) (by decide +kernel) (by decide),
  List.forall_mem_cons.mpr ⟨gs_goto (show decode cX7_walks 50 = .ok (.goto (-26), 3) by decide +kernel) (by decide),
  List.forall_mem_cons.mpr ⟨gs_vret (show decode cX7_walks 53 = .ok (.return_, 1) by decide +kernel) rfl, fun _ h => absurd h List.not_mem_nil⟩⟩⟩⟩⟩⟩⟩⟩⟩⟩⟩⟩⟩⟩⟩⟩⟩⟩⟩⟩⟩⟩⟩⟩⟩⟩⟩⟩⟩⟩⟩⟩)
def S_X7_walks : Nat → Option (List Bool) := fun pc => if pc = 24 then some [true, true, true] else none
theorem PE_X7_walks (n0 : Nat) (K : gK) (Q : gQ) (n : Nat) (lv : gL) (st : List Value) (h : gH) (kc ks : Nat) : grun (P_X7_walks n0) S_X7_walks K Q (n + 1) 0 lv st h kc ks = gi_ald 0 1 (gnx (P_X7_walks n0) S_X7_walks K Q n) Q 0 lv st h kc ks ∧ grun (P_X7_walks n0) S_X7_walks K Q (n + 1) 1 lv st h kc ks = gi_getf 10 23 (gnx (P_X7_walks n0) S_X7_walks K Q n) Q 1 lv st h kc ks ∧ grun (P_X7_walks n0) S_X7_walks K Q (n + 1) 4 lv st h kc ks = gi_ald 0 1 (gnx (P_X7_walks n0) S_X7_walks K Q n) Q 4 lv st h kc ks ∧ grun (P_X7_walks n0) S_X7_walks K Q (n + 1) 5 lv st h kc ks = gi_getf 10 24 (gnx (P_X7_walks n0) S_X7_walks K Q n) Q 5 lv st h kc ks ∧ grun (P_X7_walks n0) S_X7_walks K Q (n + 1) 8 lv st h kc ks = gi_ild 1 1 (gnx (P_X7_walks n0) S_X7_walks K Q n) Q 8 lv st h kc ks ∧ grun (P_X7_walks n0) S_X7_walks K Q (n + 1) 9 lv st h kc ks = gi_iast (gnx (P_X7_walks n0) S_X7_walks K Q n) Q 9 lv st h kc ks ∧ grun (P_X7_walks n0) S_X7_walks K Q (n + 1) 10 lv st h kc ks = gi_ald 0 1 (gnx (P_X7_walks n0) S_X7_walks K Q n) Q 10 lv st h kc ks ∧ grun (P_X7_walks n0) S_X7_walks K Q (n + 1) 11 lv st h kc ks = gi_dup (gnx (P_X7_walks n0) S_X7_walks K Q n) Q 11 lv st h kc ks ∧ grun (P_X7_walks n0) S_X7_walks K Q (n + 1) 12 lv st h kc ks = gi_getf 10 24 (gnx (P_X7_walks n0) S_X7_walks K Q n) Q 12 lv st h kc ks ∧ grun (P_X7_walks n0) S_X7_walks K Q (n + 1) 15 lv st h kc ks = gi_k (.int (nI 1)) 1 (gnx (P_X7_walks n0) S_X7_walks K Q n) Q 15 lv st h kc ks ∧ grun (P_X7_walks n0) S_X7_walks K Q (n + 1) 16 lv st h kc ks = gi_iadd (gnx (P_X7_walks n0) S_X7_walks K Q n) Q 16 lv st h kc ks ∧ grun (P_X7_walks n0) S_X7_walks K Q (n + 1) 17 lv st h kc ks = gi_putf 10 24 .int (gnx (P_X7_walks n0) S_X7_walks K Q n) Q 17 lv st h kc ks ∧ grun (P_X7_walks n0) S_X7_walks K Q (n + 1) 20 lv st h kc ks = gi_ild 1 1 (gnx (P_X7_walks n0) S_X7_walks K Q n) Q 20 lv st h kc ks ∧ grun (P_X7_walks n0) S_X7_walks K Q (n + 1) 21 lv st h kc ks = gi_k (.int (nI 1)) 1 (gnx (P_X7_walks n0) S_X7_walks K Q n) Q 21 lv st h kc ks ∧ grun (P_X7_walks n0) S_X7_walks K Q (n + 1) 22 lv st h kc ks = gi_iadd (gnx (P_X7_walks n0) S_X7_walks K Q n) Q 22 lv st h kc ks ∧ grun (P_X7_walks n0) S_X7_walks K Q (n + 1) 23 lv st h kc ks = gi_ist 2 1 (gnx (P_X7_walks n0) S_X7_walks K Q n) Q 23 lv st h kc ks ∧ grun (P_X7_walks n0) S_X7_walks K Q (n + 1) 24 lv st h kc ks = gi_ild 2 1 (gnx (P_X7_walks n0) S_X7_walks K Q n) Q 24 lv st h kc ks ∧ grun (P_X7_walks n0) S_X7_walks K Q (n + 1) 25 lv st h kc ks = gi_ald 0 1 (gnx (P_X7_walks n0) S_X7_walks K Q n) Q 25 lv st h kc ks ∧ grun (P_X7_walks n0) S_X7_walks K Q (n + 1) 26 lv st h kc ks = gi_getf 10 3 (gnx (P_X7_walks n0) S_X7_walks K Q n) Q 26 lv st h kc ks ∧ grun (P_X7_walks n0) S_X7_walks K Q (n + 1) 29 lv st h kc ks = gi_ic_ge 53 (gnx (P_X7_walks n0) S_X7_walks K Q n) Q 29 lv st h kc ks ∧ grun (P_X7_walks n0) S_X7_walks K Q (n + 1) 32 lv st h kc ks = gi_ald 0 1 (gnx (P_X7_walks n0) S_X7_walks K Q n) Q 32 lv st h kc ks ∧ grun (P_X7_walks n0) S_X7_walks K Q (n + 1) 33 lv st h kc ks = gi_getf 10 19 (gnx (P_X7_walks n0) S_X7_walks K Q n) Q 33 lv st h kc ks ∧ grun (P_X7_walks n0) S_X7_walks K Q (n + 1) 36 lv st h kc ks = gi_ild 2 1 (gnx (P_X7_walks n0) S_X7_walks K Q n) Q 36 lv st h kc ks ∧ grun (P_X7_walks n0) S_X7_walks K Q (n + 1) 37 lv st h kc ks = gi_iald (gnx (P_X7_walks n0) S_X7_walks K Q n) Q 37 lv st h kc ks ∧ grun (P_X7_walks n0) S_X7_walks K Q (n + 1) 38 lv st h kc ks = gi_ild 1 1 (gnx (P_X7_walks n0) S_X7_walks K Q n) Q 38 lv st h kc ks ∧ grun (P_X7_walks n0) S_X7_walks K Q (n + 1) 39 lv st h kc ks = gi_ic_ne 47 (gnx (P_X7_walks n0) S_X7_walks K Q n) Q 39 lv st h kc ks ∧ grun (P_X7_walks n0) S_X7_walks K Q (n + 1) 42 lv st h kc ks = gi_ald 0 1 (gnx (P_X7_walks n0) S_X7_walks K Q n) Q 42 lv st h kc ks ∧ grun (P_X7_walks n0) S_X7_walks K Q (n + 1) 43 lv st h kc ks = gi_ild 2 1 (gnx (P_X7_walks n0) S_X7_walks K Q n) Q 43 lv st h kc ks ∧ grun (P_X7_walks n0) S_X7_walks K Q (n + 1) 44 lv st h kc ks = gi_callV 10 1 0 0 (TW n0) (gnx (P_X7_walks n0) S_X7_walks K Q n) Q 44 lv st h kc ks ∧ grun (P_X7_walks n0) S_X7_walks K Q (n + 1) 47 lv st h kc ks = gi_iinc 2 (nI 1) (gnx (P_X7_walks n0) S_X7_walks K Q n) Q 47 lv st h kc ks ∧ grun (P_X7_walks n0) S_X7_walks K Q (n + 1) 50 lv st h kc ks = gi_goto 24 (gnx (P_X7_walks n0) S_X7_walks K Q n) Q 50 lv st h kc ks ∧ grun (P_X7_walks n0) S_X7_walks K Q (n + 1) 53 lv st h kc ks = gi_vret (gnx (P_X7_walks n0) S_X7_walks K Q n) Q 53 lv st h kc ks := ⟨rfl, rfl, rfl, rfl, rfl, rfl, rfl, rfl, rfl, rfl, rfl, rfl, rfl, rfl, rfl, rfl, rfl, rfl, rfl, rfl, rfl, rfl, rfl, rfl, rfl, rfl, rfl, rfl, rfl, rfl, rfl, rfl⟩
theorem PN_X7_walks (n0 : Nat) (K : gK) (Q : gQ) (n : Nat) (lv : gL) (st : List Value) (h : gH) (kc ks : Nat) : gnx (P_X7_walks n0) S_X7_walks K Q n 0 lv st h kc ks = grun (P_X7_walks n0) S_X7_walks K Q n 0 lv st h kc ks ∧ gnx (P_X7_walks n0) S_X7_walks K Q n 1 lv st h kc ks = grun (P_X7_walks n0) S_X7_walks K Q n 1 lv st h kc ks ∧ gnx (P_X7_walks n0) S_X7_walks K Q n 4 lv st h kc ks = grun (P_X7_walks n0) S_X7_walks K Q n 4 lv st h kc ks ∧ gnx (P_X7_walks n0) S_X7_walks K Q n 5 lv st h kc ks = grun (P_X7_walks n0) S_X7_walks K Q n 5 lv st h kc ks ∧ gnx (P_X7_walks n0) S_X7_walks K Q n 8 lv st h kc ks = grun (P_X7_walks n0) S_X7_walks K Q n 8 lv st h kc ks ∧ gnx (P_X7_walks n0) S_X7_walks K Q n 9 lv st h kc ks = grun (P_X7_walks n0) S_X7_walks K Q n 9 lv st h kc ks ∧ gnx (P_X7_walks n0) S_X7_walks K Q n 10 lv st h kc ks = grun (P_X7_walks n0) S_X7_walks K Q n 10 lv st h kc ks ∧ gnx (P_X7_walks n0) S_X7_walks K Q n 11 lv st h kc ks = grun (P_X7_walks n0) S_X7_walks K Q n 11 lv st h kc ks ∧ gnx (P_X7_walks n0) S_X7_walks K Q n 12 lv st h kc ks = grun (P_X7_walks n0) S_X7_walks K Q n 12 lv st h kc ks ∧ gnx (P_X7_walks n0) S_X7_walks K Q n 15 lv st h kc ks = grun (P_X7_walks n0) S_X7_walks K Q n 15 lv st h kc ks ∧ gnx (P_X7_walks n0) S_X7_walks K Q n 16 lv st h kc ks = grun (P_X7_walks n0) S_X7_walks K Q n 16 lv st h kc ks ∧ gnx (P_X7_walks n0) S_X7_walks K Q n 17 lv st h kc ks = grun (P_X7_walks n0) S_X7_walks K Q n 17 lv st h kc ks ∧ gnx (P_X7_walks n0) S_X7_walks K Q n 20 lv st h kc ks = grun (P_X7_walks n0) S_X7_walks K Q n 20 lv st h kc ks ∧ gnx (P_X7_walks n0) S_X7_walks K Q n 21 lv st h kc ks = grun (P_X7_walks n0) S_X7_walks K Q n 21 lv st h kc ks ∧ gnx (P_X7_walks n0) S_X7_walks K Q n 22 lv st h kc ks = grun (P_X7_walks n0) S_X7_walks K Q n 22 lv st h kc ks ∧ gnx (P_X7_walks n0) S_X7_walks K Q n 23 lv st h kc ks = grun (P_X7_walks n0) S_X7_walks K Q n 23 lv st h kc ks ∧ gnx (P_X7_walks n0) S_X7_walks K Q n 24 lv st h kc ks = K 24 (gmask [true, true, true] lv) st h kc ks ∧ gnx (P_X7_walks n0) S_X7_walks K Q n 25 lv st h kc ks = grun (P_X7_walks n0) S_X7_walks K Q n 25 lv st h kc ks ∧ gnx (P_X7_walks n0) S_X7_walks K Q n 26 lv st h kc ks = grun (P_X7_walks n0) S_X7_walks K Q n 26 lv st h kc ks ∧ gnx (P_X7_walks n0) S_X7_walks K Q n 29 lv st h kc ks = grun (P_X7_walks n0) S_X7_walks K Q n 29 lv st h kc ks ∧ gnx (P_X7_walks n0) S_X7_walks K Q n 32 lv st h kc ks = grun (P_X7_walks n0) S_X7_walks K Q n 32 lv st h kc ks ∧ gnx (P_X7_walks n0) S_X7_walks K Q n 33 lv st h kc ks = grun (P_X7_walks n0) S_X7_walks K Q n 33 lv st h kc ks ∧ gnx (P_X7_walks n0) S_X7_walks K Q n 36 lv st h kc ks = grun (P_X7_walks n0) S_X7_walks K Q n 36 lv st h kc ks ∧ gnx (P_X7_walks n0) S_X7_walks K Q n 37 lv st h kc ks = grun (P_X7_walks n0) S_X7_walks K Q n 37 lv st h kc ks ∧ gnx (P_X7_walks n0) S_X7_walks K Q n 38 lv st h kc ks = grun (P_X7_walks n0) S_X7_walks K Q n 38 lv st h kc ks ∧ gnx (P_X7_walks n0) S_X7_walks K Q n 39 lv st h kc ks = grun (P_X7_walks n0) S_X7_walks K Q n 39 lv st h kc ks ∧ gnx (P_X7_walks n0) S_X7_walks K Q n 42 lv st h kc ks = grun (P_X7_walks n0) S_X7_walks K Q n 42 lv st h kc ks ∧ gnx (P_X7_walks n0) S_X7_walks K Q n 43 lv st h kc ks = grun (P_X7_walks n0) S_X7_walks K Q n 43 lv st h kc ks ∧ gnx (P_X7_walks n0) S_X7_walks K Q n 44 lv st h kc ks = grun (P_X7_walks n0) S_X7_walks K Q n 44 lv st h kc ks ∧ gnx (P_X7_walks n0) S_X7_walks K Q n 47 lv st h kc ks = grun (P_X7_walks n0) S_X7_walks K Q n 47 lv st h kc ks ∧ gnx (P_X7_walks n0) S_X7_walks K Q n 50 lv st h kc ks = grun (P_X7_walks n0) S_X7_walks K Q n 50 lv st h kc ks ∧ gnx (P_X7_walks n0) S_X7_walks K Q n 53 lv st h kc ks = grun (P_X7_walks n0) S_X7_walks K Q n 53 lv st h kc ks := ⟨rfl, rfl, rfl, rfl, rfl, rfl, rfl, rfl, rfl, rfl, rfl, rfl, rfl, rfl, rfl, rfl, rfl, rfl, rfl, rfl, rfl, rfl, rfl, rfl, rfl, rfl, rfl, rfl, rfl, rfl, rfl, rfl⟩
theorem go_X7_walks (n0 : Nat) (ih : gSp (n0 + 1) 0 0 yX7_walks [.code yX7_walks cX7_walks 3 none] (TW n0)) {X : gX} {Q : gQ} (hC : gC (M_X7_walks n0).1 (M_X7_walks n0).2.1 (M_X7_walks n0).2.2.1 (M_X7_walks n0).2.2.2.1 (M_X7_walks n0).2.2.2.2.1 (M_X7_walks n0).2.2.2.2.2.1 (M_X7_walks n0).2.2.2.2.2.2 X) (n : Nat) {pc : Nat} {lv : gL} {st : List Value} {h : gH} {kc ks : Nat} (k : grun (P_X7_walks n0) S_X7_walks (gd 3 X Q) Q n pc lv st h kc ks) : gd 3 X Q pc lv st h kc ks := grun_ok (PS_X7_walks n0 ih) hC S_X7_walks n pc lv st h kc ks k
theorem spW : ∀ n, gSp (n + 1) 0 0 yX7_walks [.code yX7_walks cX7_walks 3 none] (TW n)
  | 0 => fun _ _ _ _ _ hT => hT.elim
  | n + 1 => by
    have ih := spW n
    refine gEntry (by decide +kernel) (fun av h Q hT => ?_) (fun X Q hC av h hT => ?_)
    · obtain ⟨am, th, m, wk, x, nu, nr, now, rf, y, tk, rfl, -⟩ := hT
      exact Nat.le_of_ble_eq_true rfl
    · obtain ⟨am, th, m, wk, x, nu, nr, now, rf, y, tk, rfl, hh, hm60, hpa, hm, hf, hwk, k⟩ := hT
      refine go_X7_walks n ih hC 60 (lv := [some (.ref (am 0)), some (.int (nI m)), none]) ?_
      have hl1 : 1 ≤ (wkF x n m).length := by
        cases n with
        | zero => exact Nat.le_refl _
        | succ n => unfold wkF; rw [List.length_cons]; omega
      have fin : ∀ (h1 : gH) (y1 : Nat → Nat → Int32) (w : List Nat), wkF x n m = m :: w → hR h1 am th nu nr (g_nm x) now rf (wk + 1 + w.length) y1 tk → (∀ k, k ≠ 18 → y1 k = y k) → (∀ j, j < wk → y1 18 j = y 18 j) → y1 18 wk = nI m → (∀ j, j < w.length → y1 18 (wk + 1 + j) = nI (w.getD j 0)) → gfm h h1 → Q (.inl none) h1 := fun h1 y1 w e g e1 e2 e3 e4 f => by
        rw [e] at k
        refine k h1 y1 (by rw [List.length_cons, show wk + (w.length + 1) = wk + 1 + w.length by omega]; exact g) e1 e2 (fun j hj => ?_) f
        cases j with
        | zero => exact e3
        | succ j =>
          rw [show wk + (j + 1) = wk + 1 + j by omega]
          exact e4 j (by rw [List.length_cons] at hj; omega)
      have e0 : wkF x n m = m :: (match n with
          | 0 => []
          | n' + 1 => (kids x m).flatMap (wkF x n')) := by
        cases n <;> rfl
      have key : ∀ (n' : Nat), n = n' + 1 → ∀ r q h1 y1, q + r = g_nm x → m < q → hR h1 am th nu nr (g_nm x) now rf (wk + 1 + ((kidsTo x m q).flatMap (wkF x n')).length) y1 tk → (∀ k, k ≠ 18 → y1 k = y k) → (∀ j, j < wk → y1 18 j = y 18 j) → y1 18 wk = nI m → (∀ j, j < ((kidsTo x m q).flatMap (wkF x n')).length → y1 18 (wk + 1 + j) = nI (((kidsTo x m q).flatMap (wkF x n')).getD j 0)) → gfm h h1 → gd 3 X Q 24 [some (.ref (am 0)), some (.int (nI m)), some (.int (nI q))] [] h1 0 0 := by
        intro n' hn' r
        subst hn'
        induction r with
        | zero =>
          intro q h1 y1 hq hmq g e1 e2 e3 e4 f
          have hq0 : q = g_nm x := by omega
          subst hq0
          refine go_X7_walks (n' + 1) ih hC 60 ?_
          simp (disch := omega) only [PE_X7_walks, PN_X7_walks, gi_ald, gi_callV, gi_dup, gi_getf, gi_goto, gi_iadd, gi_iald, gi_iast, gi_ic_ge, gi_ic_ne, gi_iinc, gi_ild, gi_ist, gi_k, gi_putf, gi_vret, gi_call, gRcv, List.getElem?_cons_zero, List.getElem?_cons_succ, Nat.reduceAdd, Nat.reduceSub, Nat.reduceLT, Nat.reduceLeDiff, Nat.reduceEqDiff, List.length_cons, List.length_nil, List.set_cons_zero, List.set_cons_succ, gst1, gst2, gcl, Value.category, reduceIte, List.drop_succ_cons, List.drop_zero, List.drop_nil, List.take_succ_cons, List.take_zero, List.take_nil, List.reverse_cons, List.reverse_nil, List.nil_append, List.cons_append, List.map_cons, List.map_nil, List.sum_cons, List.sum_nil, gmask, gcont, Option.toList, true_and, and_true, okf_int, okf_float, okf_ref, okf_null, okf_arr, okf_bool, okf_true, okf_false, Nat.zero_le, Nat.sub_zero, grv, gset_gset, gset_d2, gset_d3, gset_d4, nI_add, nsub, pk_mul, nlt, nle, neq, nlt0, ngt0, nle0, nge0, neq0, npred, nneg1, ncl, vin, vnarc, narc, nar_b0, nar_b1, not_true_eq_false, not_false_eq_true, false_implies, true_implies, implies_true, ite_true, ite_false, Bool.false_eq_true, mk_shl, mk_or, mk_and, g.1]
          exact ⟨fun _ => fin h1 y1 _ e0 g e1 e2 e3 e4 f, fun z => by omega⟩
        | succ r ihr =>
          intro q h1 y1 hq hmq g e1 e2 e3 e4 f
          have hqn : q < g_nm x := by omega
          obtain ⟨b1, b2⟩ := hpa q hqn
          have a14 := g.rd 14 (by decide) (by decide) (by decide) (ty := .int) (n := 60) rfl rfl (show _ = y 14 from e1 14 (by decide))
          have hle := kidsTo_le (x := x) (m := m) (wkF x n') (g_nm x - (q + 1)) (q + 1)
          rw [show q + 1 + (g_nm x - (q + 1)) = g_nm x by omega] at hle
          have hwk2 : wk + 1 + ((kidsTo x m (g_nm x)).flatMap (wkF x n')).length ≤ 60 := by
            have e9 := e0
            rw [e9, List.length_cons] at hwk
            have hwk3 : wk + (((kidsTo x m (g_nm x)).flatMap (wkF x n')).length + 1) ≤ 60 := hwk
            omega
          have kk := kidsTo_sn (x := x) hmq
          refine go_X7_walks (n' + 1) ih hC 60 ?_
          by_cases hq9 : g_pa x q = some m
          · rw [if_pos hq9] at kk
            have kl : ((kidsTo x m (q + 1)).flatMap (wkF x n')) = ((kidsTo x m q).flatMap (wkF x n')) ++ wkF x n' q := by
              rw [kk, List.flatMap_append]
              simp
            rw [kl, List.length_append] at hle
            have hcd : (paI (g_pa x q) = nI m) = True := by rw [paI_eq (p := g_pa x q) (m := m) (by omega) (fun p hp => by have := b2 p hp; omega)]; exact eq_true hq9
            simp (disch := omega) only [PE_X7_walks, PN_X7_walks, gi_ald, gi_callV, gi_dup, gi_getf, gi_goto, gi_iadd, gi_iald, gi_iast, gi_ic_ge, gi_ic_ne, gi_iinc, gi_ild, gi_ist, gi_k, gi_putf, gi_vret, gi_call, gRcv, List.getElem?_cons_zero, List.getElem?_cons_succ, Nat.reduceAdd, Nat.reduceSub, Nat.reduceLT, Nat.reduceLeDiff, Nat.reduceEqDiff, List.length_cons, List.length_nil, List.set_cons_zero, List.set_cons_succ, gst1, gst2, gcl, Value.category, reduceIte, List.drop_succ_cons, List.drop_zero, List.drop_nil, List.take_succ_cons, List.take_zero, List.take_nil, List.reverse_cons, List.reverse_nil, List.nil_append, List.cons_append, List.map_cons, List.map_nil, List.sum_cons, List.sum_nil, gmask, gcont, Option.toList, true_and, and_true, okf_int, okf_float, okf_ref, okf_null, okf_arr, okf_bool, okf_true, okf_false, Nat.zero_le, Nat.sub_zero, grv, gset_gset, gset_d2, gset_d3, gset_d4, nI_add, nsub, pk_mul, nlt, nle, neq, nlt0, ngt0, nle0, nge0, neq0, npred, nneg1, ncl, vin, vnarc, narc, nar_b0, nar_b1, not_true_eq_false, not_false_eq_true, false_implies, true_implies, implies_true, ite_true, ite_false, Bool.false_eq_true, mk_shl, mk_or, mk_and, g.1, a14, b1, hcd]
            refine ⟨fun z => by omega, fun _ => ⟨am, th, q, _, x, nu, nr, now, rf, y1, tk, rfl, g, hm60, fun p hp => ⟨by rw [e1 14 (by decide)]; exact (hpa p hp).1, (hpa p hp).2⟩, hqn, by omega, by omega, fun h2 y2 g2 q1 q2 q3 f2 => ?_⟩⟩
            simp (disch := omega) only [PE_X7_walks, PN_X7_walks, gi_ald, gi_callV, gi_dup, gi_getf, gi_goto, gi_iadd, gi_iald, gi_iast, gi_ic_ge, gi_ic_ne, gi_iinc, gi_ild, gi_ist, gi_k, gi_putf, gi_vret, gi_call, gRcv, List.getElem?_cons_zero, List.getElem?_cons_succ, Nat.reduceAdd, Nat.reduceSub, Nat.reduceLT, Nat.reduceLeDiff, Nat.reduceEqDiff, List.length_cons, List.length_nil, List.set_cons_zero, List.set_cons_succ, gst1, gst2, gcl, Value.category, reduceIte, List.drop_succ_cons, List.drop_zero, List.drop_nil, List.take_succ_cons, List.take_zero, List.take_nil, List.reverse_cons, List.reverse_nil, List.nil_append, List.cons_append, List.map_cons, List.map_nil, List.sum_cons, List.sum_nil, gmask, gcont, Option.toList, true_and, and_true, okf_int, okf_float, okf_ref, okf_null, okf_arr, okf_bool, okf_true, okf_false, Nat.zero_le, Nat.sub_zero, grv, gset_gset, gset_d2, gset_d3, gset_d4, nI_add, nsub, pk_mul, nlt, nle, neq, nlt0, ngt0, nle0, nge0, neq0, npred, nneg1, ncl, vin, vnarc, narc, nar_b0, nar_b1, not_true_eq_false, not_false_eq_true, false_implies, true_implies, implies_true, ite_true, ite_false, Bool.false_eq_true, mk_shl, mk_or, mk_and]
            refine ihr (q + 1) h2 y2 (by omega) (by omega) ?_ (fun k hk => (q1 k hk).trans (e1 k hk)) (fun j hj => (q2 j (by omega)).trans (e2 j hj)) ((q2 wk (by omega)).trans e3) (fun j hj => ?_) (f.trans f2)
            · rw [kl, List.length_append, ← Nat.add_assoc]
              exact g2
            · rw [kl, List.getD_eq_getElem?_getD]
              rw [kl, List.length_append] at hj
              by_cases hj1 : j < ((kidsTo x m q).flatMap (wkF x n')).length
              · rw [q2 (wk + 1 + j) (by omega), List.getElem?_append_left hj1, ← List.getD_eq_getElem?_getD]
                exact e4 j hj1
              · rw [List.getElem?_append_right (by omega), ← List.getD_eq_getElem?_getD, ← q3 (j - ((kidsTo x m q).flatMap (wkF x n')).length) (by omega)]
                congr 1
                omega
          · rw [if_neg hq9, List.append_nil] at kk
            have hcd : (paI (g_pa x q) = nI m) = False := by rw [paI_eq (p := g_pa x q) (m := m) (by omega) (fun p hp => by have := b2 p hp; omega)]; exact eq_false hq9
            simp (disch := omega) only [PE_X7_walks, PN_X7_walks, gi_ald, gi_callV, gi_dup, gi_getf, gi_goto, gi_iadd, gi_iald, gi_iast, gi_ic_ge, gi_ic_ne, gi_iinc, gi_ild, gi_ist, gi_k, gi_putf, gi_vret, gi_call, gRcv, List.getElem?_cons_zero, List.getElem?_cons_succ, Nat.reduceAdd, Nat.reduceSub, Nat.reduceLT, Nat.reduceLeDiff, Nat.reduceEqDiff, List.length_cons, List.length_nil, List.set_cons_zero, List.set_cons_succ, gst1, gst2, gcl, Value.category, reduceIte, List.drop_succ_cons, List.drop_zero, List.drop_nil, List.take_succ_cons, List.take_zero, List.take_nil, List.reverse_cons, List.reverse_nil, List.nil_append, List.cons_append, List.map_cons, List.map_nil, List.sum_cons, List.sum_nil, gmask, gcont, Option.toList, true_and, and_true, okf_int, okf_float, okf_ref, okf_null, okf_arr, okf_bool, okf_true, okf_false, Nat.zero_le, Nat.sub_zero, grv, gset_gset, gset_d2, gset_d3, gset_d4, nI_add, nsub, pk_mul, nlt, nle, neq, nlt0, ngt0, nle0, nge0, neq0, npred, nneg1, ncl, vin, vnarc, narc, nar_b0, nar_b1, not_true_eq_false, not_false_eq_true, false_implies, true_implies, implies_true, ite_true, ite_false, Bool.false_eq_true, mk_shl, mk_or, mk_and, g.1, a14, b1, hcd]
            refine ⟨fun z => by omega, fun _ => ?_⟩
            exact ihr (q + 1) h1 y1 (by omega) (by omega) (by rw [kk]; exact g) e1 e2 e3 (by rw [kk]; exact e4) f
      have a18 := hh.rd 18 (by decide) (by decide) (by decide) (ty := .int) (n := 60) rfl rfl (show _ = y 18 from rfl)
      obtain ⟨g1, f1⟩ := hh.wr2 18 (by decide) (by decide) (by decide) (ty := .int) (n := 60) rfl rfl (gup (y 18) wk (nI m))
      obtain ⟨g2, f2⟩ := g1.ob th nu nr (g_nm x) now rf (wk + 1)
      have o1 := g1.1
      simp (disch := omega) only [PE_X7_walks, PN_X7_walks, gi_ald, gi_callV, gi_dup, gi_getf, gi_goto, gi_iadd, gi_iald, gi_iast, gi_ic_ge, gi_ic_ne, gi_iinc, gi_ild, gi_ist, gi_k, gi_putf, gi_vret, gi_call, gRcv, List.getElem?_cons_zero, List.getElem?_cons_succ, Nat.reduceAdd, Nat.reduceSub, Nat.reduceLT, Nat.reduceLeDiff, Nat.reduceEqDiff, List.length_cons, List.length_nil, List.set_cons_zero, List.set_cons_succ, gst1, gst2, gcl, Value.category, reduceIte, List.drop_succ_cons, List.drop_zero, List.drop_nil, List.take_succ_cons, List.take_zero, List.take_nil, List.reverse_cons, List.reverse_nil, List.nil_append, List.cons_append, List.map_cons, List.map_nil, List.sum_cons, List.sum_nil, gmask, gcont, Option.toList, true_and, and_true, okf_int, okf_float, okf_ref, okf_null, okf_arr, okf_bool, okf_true, okf_false, Nat.zero_le, Nat.sub_zero, grv, gset_gset, gset_d2, gset_d3, gset_d4, nI_add, nsub, pk_mul, nlt, nle, neq, nlt0, ngt0, nle0, nge0, neq0, npred, nneg1, ncl, vin, vnarc, narc, nar_b0, nar_b1, not_true_eq_false, not_false_eq_true, false_implies, true_implies, implies_true, ite_true, ite_false, Bool.false_eq_true, mk_shl, mk_or, mk_and, hh.1, a18, o1, okf_int]
      cases n with
      | zero =>
        refine go_X7_walks 0 ih hC 60 ?_
        have o2 := g2.1
        simp (disch := omega) only [PE_X7_walks, PN_X7_walks, gi_ald, gi_callV, gi_dup, gi_getf, gi_goto, gi_iadd, gi_iald, gi_iast, gi_ic_ge, gi_ic_ne, gi_iinc, gi_ild, gi_ist, gi_k, gi_putf, gi_vret, gi_call, gRcv, List.getElem?_cons_zero, List.getElem?_cons_succ, Nat.reduceAdd, Nat.reduceSub, Nat.reduceLT, Nat.reduceLeDiff, Nat.reduceEqDiff, List.length_cons, List.length_nil, List.set_cons_zero, List.set_cons_succ, gst1, gst2, gcl, Value.category, reduceIte, List.drop_succ_cons, List.drop_zero, List.drop_nil, List.take_succ_cons, List.take_zero, List.take_nil, List.reverse_cons, List.reverse_nil, List.nil_append, List.cons_append, List.map_cons, List.map_nil, List.sum_cons, List.sum_nil, gmask, gcont, Option.toList, true_and, and_true, okf_int, okf_float, okf_ref, okf_null, okf_arr, okf_bool, okf_true, okf_false, Nat.zero_le, Nat.sub_zero, grv, gset_gset, gset_d2, gset_d3, gset_d4, nI_add, nsub, pk_mul, nlt, nle, neq, nlt0, ngt0, nle0, nge0, neq0, npred, nneg1, ncl, vin, vnarc, narc, nar_b0, nar_b1, not_true_eq_false, not_false_eq_true, false_implies, true_implies, implies_true, ite_true, ite_false, Bool.false_eq_true, mk_shl, mk_or, mk_and, o2]
        refine ⟨fun _ => fin _ _ [] rfl g2 (fun k hk => gup_of hk) (fun j hj => by rw [gup_at, gup_of (by omega)]) (by rw [gup_at, gup_at]) (fun j hj => absurd hj (Nat.not_lt_zero j)) (f1.trans f2), fun z => by omega⟩
      | succ n' =>
        refine key n' rfl (g_nm x - (m + 1)) (m + 1) _ (gup y 18 (gup (y 18) wk (nI m))) (by omega) (by omega) ?_ (fun k hk => gup_of hk) (fun j hj => by rw [gup_at, gup_of (by omega)]) (by rw [gup_at, gup_at]) (fun j hj => ?_) (f1.trans f2)
        · rw [kidsTo_0]
          exact g2
        · rw [kidsTo_0] at hj
          exact absurd hj (Nat.not_lt_zero j)
def T_X7_walks : gPT := TW 61
theorem sp_X7_walks : gSp 62 0 0 yX7_walks [.code yX7_walks cX7_walks 3 none] T_X7_walks := spW 61
