/-! moveMark, growThreads, findInThread -/
def m_mark (x : gS) (r u n : Nat) : gS := s_mk (gup (g_mk x) r (gup (g_mk x r) u n)) x
theorem c_mk {x : gS} {ad : Nat → Nat → Nat} {r u n k i : Nat} {e : gE} (hn : k ≠ 15 ∨ i ≠ 6 * r + u) (hc : cellX x ad k i e) : cellX (m_mark x r u n) ad k i e := by
  unfold m_mark
  unfold cellX at hc ⊢
  simp only [e_mk]
  split at hc
  case h_16 =>
    have hi := hn.resolve_left (fun z => z rfl)
    show e = oX 11 [.ref (ad 9 (i % 6)), .int (nI (gup (g_mk x) r (gup (g_mk x r) u n) (i / 6) (i % 6)))]
    by_cases a : i / 6 = r
    · have b : i % 6 ≠ u := fun b => hi (by omega)
      rw [a] at hc
      rw [a, gup_at, gup_of b]
      exact hc
    · rw [gup_of a]
      exact hc
  all_goals exact hc
theorem l_mk {x : gS} {r u n : Nat} (k i : Nat) : liveX (m_mark x r u n) k i ↔ liveX x k i := by
  unfold liveX m_mark
  simp only [e_mk]
theorem holdsX.mark {h : gH} {x : gS} {ad : Nat → Nat → Nat} (hh : holdsX h x ad) {r u n : Nat} (hr : r < g_nr x) (hm : u ∈ g_mem x r) (h6 : u < 6) : holdsX (gset h (adM ad r u) (oX 11 [.ref (ad 9 u), .int (nI n)])) (m_mark x r u n) ad ∧ gfr h (gset h (adM ad r u) (oX 11 [.ref (ad 9 u), .int (nI n)])) :=
  hh.set 15 (6 * r + u) (lvM hr hm h6) l_mk (by
    show oX 11 [.ref (ad 9 u), .int (nI n)] = oX 11 [.ref (ad 9 ((6 * r + u) % 6)), .int (nI (g_mk (m_mark x r u n) ((6 * r + u) / 6) ((6 * r + u) % 6)))]
    rw [(dv6 h6).1, (dv6 h6).2]
    unfold m_mark
    simp only [e_mk, gup_at]) (fun k1 i1 e1 hn _ hc => c_mk hn hc)
def m_read (x : gS) (r u n : Nat) : gS := m_see (m_note (m_mark x r u n) (109, nI u, nI r, nI n - nI 1, 0)) u
def T_X6_moveMark : gPT := fun av h Q => ∃ (u r n : Nat) (x : gS) (ad : Nat → Nat → Nat), av = [.ref (ad 0 0), .ref (adM ad r u), .ref (ad 12 r), .int (nI n)] ∧ holdsX h x ad ∧ u < g_nu x ∧ u < 6 ∧ r < g_nr x ∧ u ∈ g_mem x r ∧ (g_log x).length < 512 ∧ ∀ h1 ad1, holdsX h1 (m_read x r u n) ad1 → gfr h h1 → (∀ k i, k ≠ 19 → ad1 k i = ad k i) → Q (.inl none) h1
abbrev M_X6_moveMark : gM := (RX6, cX6_moveMark, 4, none, "moveMark", [], 10)
def L_X6_moveMark : List (Nat × gOp) := [(0, gi_ald 1 1), (1, gi_ild 3 1), (2, gi_putf 11 1 .int), (5, gi_ald 0 1), (6, gi_k (.int (nI 109)) 2), (8, gi_ald 1 1), (9, gi_getf 11 0), (12, gi_getf 8 0), (15, gi_ald 2 1), (16, gi_getf 6 0), (19, gi_ild 3 1), (20, gi_k (.int (nI 1)) 1), (21, gi_isub), (22, gi_k (.int (nI 0)) 1), (23, gi_callV 9 5 2 1005 T_X6_note), (26, gi_ald 0 1), (27, gi_ald 1 1), (28, gi_getf 11 0), (31, gi_callV 9 1 0 0 T_X6_see), (34, gi_vret)]
def P_X6_moveMark : Nat → gOp := gtab L_X6_moveMark
theorem PS_X6_moveMark : ∀ pc, gSnd M_X6_moveMark pc (P_X6_moveMark pc) := gtab_ok (
  List.forall_mem_cons.mpr ⟨gs_aload_n (show decode cX6_moveMark 0 = .ok (.aload_n 1, 1) by decide +kernel) rfl,
  List.forall_mem_cons.mpr ⟨gs_iload_n (show decode cX6_moveMark 1 = .ok (.iload_n 3, 1) by decide +kernel) rfl,
  List.forall_mem_cons.mpr ⟨gs_putfN (ref := "Inglenook$Member") (host := "Inglenook") gKX8 (by decide) (show decode cX6_moveMark 2 = .ok (.putfield 294, 3) by decide +kernel) (lw_in 526 (by decide +kernel)) (Or.inl rfl) rfl rfl,
  List.forall_mem_cons.mpr ⟨gs_aload_n (show decode cX6_moveMark 5 = .ok (.aload_n 0, 1) by decide +kernel) rfl,
  List.forall_mem_cons.mpr ⟨gs_bipush (show decode cX6_moveMark 6 = .ok (.bipush 109, 2) by decide +kernel) (by decide +kernel),
  List.forall_mem_cons.mpr ⟨gs_aload_n (show decode cX6_moveMark 8 = .ok (.aload_n 1, 1) by decide +kernel) rfl,
  List.forall_mem_cons.mpr ⟨gs_getfN (ref := "Inglenook$Member") (host := "Inglenook") gKX8 (by decide) (show decode cX6_moveMark 9 = .ok (.getfield 237, 3) by decide +kernel) (lw_in 523 (by decide +kernel)) (Or.inl rfl),
  List.forall_mem_cons.mpr ⟨gs_getfN (ref := "Inglenook$User") (host := "Inglenook") gKX5 (by decide) (show decode cX6_moveMark 12 = .ok (.getfield 240, 3) by decide +kernel) (lw_in 286 (by decide +kernel)) (Or.inl rfl),
  List.forall_mem_cons.mpr ⟨gs_aload_n (show decode cX6_moveMark 15 = .ok (.aload_n 2, 1) by decide +kernel) rfl,
  List.forall_mem_cons.mpr ⟨gs_getfN (ref := "Inglenook$Room") (host := "Inglenook") gKX3 (by decide) (show decode cX6_moveMark 16 = .ok (.getfield 183, 3) by decide +kernel) (lw_in 498 (by decide +kernel)) (Or.inl rfl),
  List.forall_mem_cons.mpr ⟨gs_iload_n (show decode cX6_moveMark 19 = .ok (.iload_n 3, 1) by decide +kernel) rfl,
  List.forall_mem_cons.mpr ⟨gs_iconst (show decode cX6_moveMark 20 = .ok (.iconst 1, 1) by decide +kernel) (by decide +kernel),
  List.forall_mem_cons.mpr ⟨gs_isub (show decode cX6_moveMark 21 = .ok (.isub, 1) by decide +kernel),
  List.forall_mem_cons.mpr ⟨gs_iconst (show decode cX6_moveMark 22 = .ok (.iconst 0, 1) by decide +kernel) (by decide +kernel),
  List.forall_mem_cons.mpr ⟨gs_callV gKX6 sp_X6_note rfl (show decode cX6_moveMark 23 = .ok (.invokevirtual 59, 3) by decide +kernel) (by decide) (by decide) (lw_in 369 (by decide +kernel)) (lw_in 38 (by decide +kernel)) (lw_in 366 (by decide +kernel)) (lw_in 368 (by decide +kernel)) (lw_in 4 (by decide +kernel)) (by decide +kernel),
  List.forall_mem_cons.mpr ⟨gs_aload_n (show decode cX6_moveMark 26 = .ok (.aload_n 0, 1) by decide +kernel) rfl,
  List.forall_mem_cons.mpr ⟨gs_aload_n (show decode cX6_moveMark 27 = .ok (.aload_n 1, 1) by decide +kernel) rfl,
  List.forall_mem_cons.mpr ⟨gs_getfN (ref := "Inglenook$Member") (host := "Inglenook") gKX8 (by decide) (show decode cX6_moveMark 28 = .ok (.getfield 237, 3) by decide +kernel) (lw_in 523 (by decide +kernel)) (Or.inl rfl),
  List.forall_mem_cons.mpr ⟨gs_callV gKX6 sp_X6_see rfl (show decode cX6_moveMark 31 = .ok (.invokevirtual 67, 3) by decide +kernel) (by decide) (by decide) (lw_in 443 (by decide +kernel)) (lw_in 38 (by decide +kernel)) (lw_in 440 (by decide +kernel)) (lw_in 442 (by decide +kernel)) (lw_in 6 (by decide +kernel)) (by decide +kernel),
  List.forall_mem_cons.mpr ⟨gs_vret (show decode cX6_moveMark 34 = .ok (.return_, 1) by decide +kernel) rfl, fun _ h => absurd h List.not_mem_nil⟩⟩⟩⟩⟩⟩⟩⟩⟩⟩⟩⟩⟩⟩⟩⟩⟩⟩⟩⟩)
def S_X6_moveMark : Nat → Option (List Bool) := fun pc => none
theorem PE_X6_moveMark (K : gK) (Q : gQ) (n : Nat) (lv : gL) (st : List Value) (h : gH) (kc ks : Nat) : grun P_X6_moveMark S_X6_moveMark K Q (n + 1) 0 lv st h kc ks = gi_ald 1 1 (gnx P_X6_moveMark S_X6_moveMark K Q n) Q 0 lv st h kc ks ∧ grun P_X6_moveMark S_X6_moveMark K Q (n + 1) 1 lv st h kc ks = gi_ild 3 1 (gnx P_X6_moveMark S_X6_moveMark K Q n) Q 1 lv st h kc ks ∧ grun P_X6_moveMark S_X6_moveMark K Q (n + 1) 2 lv st h kc ks = gi_putf 11 1 .int (gnx P_X6_moveMark S_X6_moveMark K Q n) Q 2 lv st h kc ks ∧ grun P_X6_moveMark S_X6_moveMark K Q (n + 1) 5 lv st h kc ks = gi_ald 0 1 (gnx P_X6_moveMark S_X6_moveMark K Q n) Q 5 lv st h kc ks ∧ grun P_X6_moveMark S_X6_moveMark K Q (n + 1) 6 lv st h kc ks = gi_k (.int (nI 109)) 2 (gnx P_X6_moveMark S_X6_moveMark K Q n) Q 6 lv st h kc ks ∧ grun P_X6_moveMark S_X6_moveMark K Q (n + 1) 8 lv st h kc ks = gi_ald 1 1 (gnx P_X6_moveMark S_X6_moveMark K Q n) Q 8 lv st h kc ks ∧ grun P_X6_moveMark S_X6_moveMark K Q (n + 1) 9 lv st h kc ks = gi_getf 11 0 (gnx P_X6_moveMark S_X6_moveMark K Q n) Q 9 lv st h kc ks ∧ grun P_X6_moveMark S_X6_moveMark K Q (n + 1) 12 lv st h kc ks = gi_getf 8 0 (gnx P_X6_moveMark S_X6_moveMark K Q n) Q 12 lv st h kc ks ∧ grun P_X6_moveMark S_X6_moveMark K Q (n + 1) 15 lv st h kc ks = gi_ald 2 1 (gnx P_X6_moveMark S_X6_moveMark K Q n) Q 15 lv st h kc ks ∧ grun P_X6_moveMark S_X6_moveMark K Q (n + 1) 16 lv st h kc ks = gi_getf 6 0 (gnx P_X6_moveMark S_X6_moveMark K Q n) Q 16 lv st h kc ks ∧ grun P_X6_moveMark S_X6_moveMark K Q (n + 1) 19 lv st h kc ks = gi_ild 3 1 (gnx P_X6_moveMark S_X6_moveMark K Q n) Q 19 lv st h kc ks ∧ grun P_X6_moveMark S_X6_moveMark K Q (n + 1) 20 lv st h kc ks = gi_k (.int (nI 1)) 1 (gnx P_X6_moveMark S_X6_moveMark K Q n) Q 20 lv st h kc ks ∧ grun P_X6_moveMark S_X6_moveMark K Q (n + 1) 21 lv st h kc ks = gi_isub (gnx P_X6_moveMark S_X6_moveMark K Q n) Q 21 lv st h kc ks ∧ grun P_X6_moveMark S_X6_moveMark K Q (n + 1) 22 lv st h kc ks = gi_k (.int (nI 0)) 1 (gnx P_X6_moveMark S_X6_moveMark K Q n) Q 22 lv st h kc ks ∧ grun P_X6_moveMark S_X6_moveMark K Q (n + 1) 23 lv st h kc ks = gi_callV 9 5 2 1005 T_X6_note (gnx P_X6_moveMark S_X6_moveMark K Q n) Q 23 lv st h kc ks ∧ grun P_X6_moveMark S_X6_moveMark K Q (n + 1) 26 lv st h kc ks = gi_ald 0 1 (gnx P_X6_moveMark S_X6_moveMark K Q n) Q 26 lv st h kc ks ∧ grun P_X6_moveMark S_X6_moveMark K Q (n + 1) 27 lv st h kc ks = gi_ald 1 1 (gnx P_X6_moveMark S_X6_moveMark K Q n) Q 27 lv st h kc ks ∧ grun P_X6_moveMark S_X6_moveMark K Q (n + 1) 28 lv st h kc ks = gi_getf 11 0 (gnx P_X6_moveMark S_X6_moveMark K Q n) Q 28 lv st h kc ks ∧ grun P_X6_moveMark S_X6_moveMark K Q (n + 1) 31 lv st h kc ks = gi_callV 9 1 0 0 T_X6_see (gnx P_X6_moveMark S_X6_moveMark K Q n) Q 31 lv st h kc ks ∧ grun P_X6_moveMark S_X6_moveMark K Q (n + 1) 34 lv st h kc ks = gi_vret (gnx P_X6_moveMark S_X6_moveMark K Q n) Q 34 lv st h kc ks := ⟨rfl, rfl, rfl, rfl, rfl, rfl, rfl, rfl, rfl, rfl, rfl, rfl, rfl, rfl, rfl, rfl, rfl, rfl, rfl, rfl⟩
theorem PN_X6_moveMark (K : gK) (Q : gQ) (n : Nat) (lv : gL) (st : List Value) (h : gH) (kc ks : Nat) : gnx P_X6_moveMark S_X6_moveMark K Q n 0 lv st h kc ks = grun P_X6_moveMark S_X6_moveMark K Q n 0 lv st h kc ks ∧ gnx P_X6_moveMark S_X6_moveMark K Q n 1 lv st h kc ks = grun P_X6_moveMark S_X6_moveMark K Q n 1 lv st h kc ks ∧ gnx P_X6_moveMark S_X6_moveMark K Q n 2 lv st h kc ks = grun P_X6_moveMark S_X6_moveMark K Q n 2 lv st h kc ks ∧ gnx P_X6_moveMark S_X6_moveMark K Q n 5 lv st h kc ks = grun P_X6_moveMark S_X6_moveMark K Q n 5 lv st h kc ks ∧ gnx P_X6_moveMark S_X6_moveMark K Q n 6 lv st h kc ks = grun P_X6_moveMark S_X6_moveMark K Q n 6 lv st h kc ks ∧ gnx P_X6_moveMark S_X6_moveMark K Q n 8 lv st h kc ks = grun P_X6_moveMark S_X6_moveMark K Q n 8 lv st h kc ks ∧ gnx P_X6_moveMark S_X6_moveMark K Q n 9 lv st h kc ks = grun P_X6_moveMark S_X6_moveMark K Q n 9 lv st h kc ks ∧ gnx P_X6_moveMark S_X6_moveMark K Q n 12 lv st h kc ks = grun P_X6_moveMark S_X6_moveMark K Q n 12 lv st h kc ks ∧ gnx P_X6_moveMark S_X6_moveMark K Q n 15 lv st h kc ks = grun P_X6_moveMark S_X6_moveMark K Q n 15 lv st h kc ks ∧ gnx P_X6_moveMark S_X6_moveMark K Q n 16 lv st h kc ks = grun P_X6_moveMark S_X6_moveMark K Q n 16 lv st h kc ks ∧ gnx P_X6_moveMark S_X6_moveMark K Q n 19 lv st h kc ks = grun P_X6_moveMark S_X6_moveMark K Q n 19 lv st h kc ks ∧ gnx P_X6_moveMark S_X6_moveMark K Q n 20 lv st h kc ks = grun P_X6_moveMark S_X6_moveMark K Q n 20 lv st h kc ks ∧ gnx P_X6_moveMark S_X6_moveMark K Q n 21 lv st h kc ks = grun P_X6_moveMark S_X6_moveMark K Q n 21 lv st h kc ks ∧ gnx P_X6_moveMark S_X6_moveMark K Q n 22 lv st h kc ks = grun P_X6_moveMark S_X6_moveMark K Q n 22 lv st h kc ks ∧ gnx P_X6_moveMark S_X6_moveMark K Q n 23 lv st h kc ks = grun P_X6_moveMark S_X6_moveMark K Q n 23 lv st h kc ks ∧ gnx P_X6_moveMark S_X6_moveMark K Q n 26 lv st h kc ks = grun P_X6_moveMark S_X6_moveMark K Q n 26 lv st h kc ks ∧ gnx P_X6_moveMark S_X6_moveMark K Q n 27 lv st h kc ks = grun P_X6_moveMark S_X6_moveMark K Q n 27 lv st h kc ks ∧ gnx P_X6_moveMark S_X6_moveMark K Q n 28 lv st h kc ks = grun P_X6_moveMark S_X6_moveMark K Q n 28 lv st h kc ks ∧ gnx P_X6_moveMark S_X6_moveMark K Q n 31 lv st h kc ks = grun P_X6_moveMark S_X6_moveMark K Q n 31 lv st h kc ks ∧ gnx P_X6_moveMark S_X6_moveMark K Q n 34 lv st h kc ks = grun P_X6_moveMark S_X6_moveMark K Q n 34 lv st h kc ks := ⟨rfl, rfl, rfl, rfl, rfl, rfl, rfl, rfl, rfl, rfl, rfl, rfl, rfl, rfl, rfl, rfl, rfl, rfl, rfl, rfl⟩
theorem go_X6_moveMark {X : gX} {Q : gQ} (hC : gC M_X6_moveMark.1 M_X6_moveMark.2.1 M_X6_moveMark.2.2.1 M_X6_moveMark.2.2.2.1 M_X6_moveMark.2.2.2.2.1 M_X6_moveMark.2.2.2.2.2.1 M_X6_moveMark.2.2.2.2.2.2 X) (n : Nat) {pc : Nat} {lv : gL} {st : List Value} {h : gH} {kc ks : Nat} (k : grun P_X6_moveMark S_X6_moveMark (gd 4 X Q) Q n pc lv st h kc ks) : gd 4 X Q pc lv st h kc ks := grun_ok PS_X6_moveMark hC S_X6_moveMark n pc lv st h kc ks k
theorem sp_X6_moveMark : gSp 10 2 1005 yX6_moveMark [.code yX6_moveMark cX6_moveMark 4 none] T_X6_moveMark := by
  refine gEntry (by decide +kernel) (fun av h Q hT => ?_) (fun X Q hC av h hT => ?_)
  · obtain ⟨u, r, n, x, ad, rfl, -⟩ := hT
    exact Nat.le_of_ble_eq_true rfl
  · obtain ⟨u, r, n, x, ad, rfl, hh, hu, hu6, hr, hm, hl, k⟩ := hT
    refine go_X6_moveMark hC 60 (lv := [some (.ref (ad 0 0)), some (.ref (adM ad r u)), some (.ref (ad 12 r)), some (.int (nI n))]) ?_
    have hX := hX15 hh hr hm hu6
    obtain ⟨hh2, hg2⟩ := hh.mark (n := n) hr hm hu6
    have hu2 : u < g_nu (m_mark x r u n) := by
      unfold m_mark
      rw [(e_mk _ _).1]
      exact hu
    have hr2 : r < g_nr (m_mark x r u n) := by
      unfold m_mark
      rw [(e_mk _ _).2.1]
      exact hr
    have hm2 : u ∈ g_mem (m_mark x r u n) r := by
      unfold m_mark
      simp only [e_mk]
      exact hm
    have hl2 : (g_log (m_mark x r u n)).length < 512 := by
      unfold m_mark
      simp only [e_mk]
      exact hl
    simp (disch := omega) only [PE_X6_moveMark, PN_X6_moveMark, gi_ald, gi_callV, gi_getf, gi_ild, gi_isub, gi_k, gi_putf, gi_vret, gi_call, gRcv, List.getElem?_cons_zero, List.getElem?_cons_succ, Nat.reduceAdd, Nat.reduceSub, Nat.reduceLT, Nat.reduceLeDiff, Nat.reduceEqDiff, List.length_cons, List.length_nil, List.set_cons_zero, List.set_cons_succ, gst1, gst2, gcl, Value.category, reduceIte, List.drop_succ_cons, List.drop_zero, List.drop_nil, List.take_succ_cons, List.take_zero, List.take_nil, List.reverse_cons, List.reverse_nil, List.nil_append, List.cons_append, List.map_cons, List.map_nil, List.sum_cons, List.sum_nil, gmask, gcont, Option.toList, true_and, and_true, okf_int, okf_float, okf_ref, okf_null, okf_arr, okf_bool, okf_true, okf_false, Nat.zero_le, Nat.sub_zero, grv, gset_gset, gset_d2, gset_d3, gset_d4, nI_add, nsub, pk_mul, nlt, nle, neq, nlt0, ngt0, nle0, nge0, neq0, npred, nneg1, ncl, vin, vnarc, narc, nar_b0, nar_b1, not_true_eq_false, not_false_eq_true, false_implies, true_implies, implies_true, ite_true, ite_false, Bool.false_eq_true, mk_shl, mk_or, mk_and, hX, okf_int, gset_self, hX9 hh2 hu2, hX12 hh2 hr2, hX0 hh2]
    refine ⟨109, 0, _, _, _, _, ad, rfl, hh2, by decide, hl2, fun h3 ad3 q1 q2 q3 => ?_⟩
    have hu3 : u < g_nu (m_note (m_mark x r u n) (109, nI u, nI r, nI n - nI 1, 0)) := by
      unfold m_note
      rw [(e_log _ _).1]
      exact hu2
    have hX3 := hX15 q1 (r := r) (u := u) (by unfold m_note; rw [(e_log _ _).2.1]; exact hr2) (by unfold m_note; simp only [e_log]; exact hm2) hu6
    rw [show adM ad3 r u = adM ad r u from q3 15 (6 * r + u) (by decide)] at hX3
    rw [← q3 0 0 (by decide)]
    simp (disch := omega) only [PE_X6_moveMark, PN_X6_moveMark, gi_ald, gi_callV, gi_getf, gi_ild, gi_isub, gi_k, gi_putf, gi_vret, gi_call, gRcv, List.getElem?_cons_zero, List.getElem?_cons_succ, Nat.reduceAdd, Nat.reduceSub, Nat.reduceLT, Nat.reduceLeDiff, Nat.reduceEqDiff, List.length_cons, List.length_nil, List.set_cons_zero, List.set_cons_succ, gst1, gst2, gcl, Value.category, reduceIte, List.drop_succ_cons, List.drop_zero, List.drop_nil, List.take_succ_cons, List.take_zero, List.take_nil, List.reverse_cons, List.reverse_nil, List.nil_append, List.cons_append, List.map_cons, List.map_nil, List.sum_cons, List.sum_nil, gmask, gcont, Option.toList, true_and, and_true, okf_int, okf_float, okf_ref, okf_null, okf_arr, okf_bool, okf_true, okf_false, Nat.zero_le, Nat.sub_zero, grv, gset_gset, gset_d2, gset_d3, gset_d4, nI_add, nsub, pk_mul, nlt, nle, neq, nlt0, ngt0, nle0, nge0, neq0, npred, nneg1, ncl, vin, vnarc, narc, nar_b0, nar_b1, not_true_eq_false, not_false_eq_true, false_implies, true_implies, implies_true, ite_true, ite_false, Bool.false_eq_true, mk_shl, mk_or, mk_and, hX0 q1, hX3]
    refine ⟨u, _, ad3, rfl, q1, hu3, fun h4 q4 q5 => ?_⟩
    simp only [PE_X6_moveMark, PN_X6_moveMark, gi_ald, gi_callV, gi_getf, gi_ild, gi_isub, gi_k, gi_putf, gi_vret, gi_call, gRcv, List.getElem?_cons_zero, List.getElem?_cons_succ, Nat.reduceAdd, Nat.reduceSub, Nat.reduceLT, Nat.reduceLeDiff, Nat.reduceEqDiff, List.length_cons, List.length_nil, List.set_cons_zero, List.set_cons_succ, gst1, gst2, gcl, Value.category, reduceIte, List.drop_succ_cons, List.drop_zero, List.drop_nil, List.take_succ_cons, List.take_zero, List.take_nil, List.reverse_cons, List.reverse_nil, List.nil_append, List.cons_append, List.map_cons, List.map_nil, List.sum_cons, List.sum_nil, gmask, gcont, Option.toList, true_and, and_true, okf_int, okf_float, okf_ref, okf_null, okf_arr, okf_bool, okf_true, okf_false, Nat.zero_le, Nat.sub_zero, grv]
    exact k h4 ad3 q4 (hg2.trans (q2.trans q5)) q3
/-- one more below each of those above -/
def tsA (pa : Nat → Option Nat) : Nat → Option Nat → (Nat → Nat) → Nat → Nat
  | 0, _, f => f
  | _ + 1, none, f => f
  | n + 1, some p, f => tsA pa n (pa p) (gup f p (f p + 1))
theorem c_ts {x : gS} {ad : Nat → Nat → Nat} {m k i : Nat} {v : Nat} {e : gE} (hn : k ≠ 16 ∨ i ≠ m) (hc : cellX x ad k i e) : cellX (s_ts (gup (g_ts x) m v) x) ad k i e := by
  unfold cellX at hc ⊢
  simp only [e_ts]
  split at hc <;> first | exact hc | (rw [gup_of (hn.resolve_left (fun z => z rfl))]; exact hc)
theorem l_ts {x : gS} {v : Nat → Nat} (k i : Nat) : liveX (s_ts v x) k i ↔ liveX x k i := by
  unfold liveX
  simp only [e_ts]
def T_X6_growThreads : gPT := fun av h Q => ∃ (m : Nat) (x : gS) (ad : Nat → Nat → Nat), av = [.ref (ad 16 m)] ∧ holdsX h x ad ∧ m < g_nm x ∧ (∀ m, m < g_nm x → ∀ p, g_pa x m = some p → p < m) ∧ ∀ h1, holdsX h1 (s_ts (tsA (g_pa x) (g_nm x) (g_pa x m) (g_ts x)) x) ad → gfr h h1 → Q (.inl none) h1
abbrev M_X6_growThreads : gM := (RX6, cX6_growThreads, 2, none, "growThreads", [], 1)
def L_X6_growThreads : List (Nat × gOp) := [(0, gi_ald 0 1), (1, gi_getf 4 4), (4, gi_ast 1 1), (5, gi_ald 1 1), (6, gi_ifnull 27), (9, gi_ald 1 1), (10, gi_dup), (11, gi_getf 4 8), (14, gi_k (.int (nI 1)) 1), (15, gi_iadd), (16, gi_putf 4 8 .int), (19, gi_ald 1 1), (20, gi_getf 4 4), (23, gi_ast 1 1), (24, gi_goto 5), (27, gi_vret)]
def P_X6_growThreads : Nat → gOp := gtab L_X6_growThreads
theorem PS_X6_growThreads : ∀ pc, gSnd M_X6_growThreads pc (P_X6_growThreads pc) := gtab_ok (
  List.forall_mem_cons.mpr ⟨gs_aload_n (show decode cX6_growThreads 0 = .ok (.aload_n 0, 1) by decide +kernel) rfl,
  List.forall_mem_cons.mpr ⟨gs_getfN (ref := "Inglenook$Message") (host := "Inglenook") gKX1 (by decide) (show decode cX6_growThreads 1 = .ok (.getfield 250, 3) by decide +kernel) (lw_in 705 (by decide +kernel)) (Or.inl rfl),
  List.forall_mem_cons.mpr ⟨gs_astore_n (show decode cX6_growThreads 4 = .ok (.astore_n 1, 1) by decide +kernel) rfl (by decide),
  List.forall_mem_cons.mpr ⟨gs_aload_n (show decode cX6_growThreads 5 = .ok (.aload_n 1, 1) by decide +kernel) rfl,
  List.forall_mem_cons.mpr ⟨gs_ifnull (show decode cX6_growThreads 6 = .ok (.ifnull 21, 3) by decide +kernel) (by decide),
  List.forall_mem_cons.mpr ⟨gs_aload_n (show decode cX6_growThreads 9 = .ok (.aload_n 1, 1) by decide +kernel) rfl,
  List.forall_mem_cons.mpr ⟨gs_dup (show decode cX6_growThreads 10 = .ok (.dup, 1) by decide +kernel),
  List.forall_mem_cons.mpr ⟨gs_getfN (ref := "Inglenook$Message") (host := "Inglenook") gKX1 (by decide) (show decode cX6_growThreads 11 = .ok (.getfield 259, 3) by decide +kernel) (lw_in 713 (by decide +kernel)) (Or.inl rfl),
  List.forall_mem_cons.mpr ⟨gs_iconst (show decode cX6_growThreads 14 = .ok (.iconst 1, 1) by decide +kernel) (by decide +kernel),
  List.forall_mem_cons.mpr ⟨gs_iadd (show decode cX6_growThreads 15 = .ok (.iadd, 1) by decide +kernel),
  List.forall_mem_cons.mpr ⟨gs_putfN (ref := "Inglenook$Message") (host := "Inglenook") gKX1 (by decide) (show decode cX6_growThreads 16 = .ok (.putfield 259, 3) by decide +kernel) (lw_in 713 (by decide +kernel)) (Or.inl rfl) rfl rfl,
  List.forall_mem_cons.mpr ⟨gs_aload_n (show decode cX6_growThreads 19 = .ok (.aload_n 1, 1) by decide +kernel) rfl,
  List.forall_mem_cons.mpr ⟨gs_getfN (ref := "Inglenook$Message") (host := "Inglenook") gKX1 (by decide) (show decode cX6_growThreads 20 = .ok (.getfield 250, 3) by decide +kernel) (lw_in 705 (by decide +kernel)) (Or.inl rfl),
  List.forall_mem_cons.mpr ⟨gs_astore_n (show decode cX6_growThreads 23 = .ok (.astore_n 1, 1) by decide +kernel) rfl (by decide),
  List.forall_mem_cons.mpr ⟨gs_goto (show decode cX6_growThreads 24 = .ok (.goto (-19), 3) by decide +kernel) (by decide),
  List.forall_mem_cons.mpr ⟨gs_vret (show decode cX6_growThreads 27 = .ok (.return_, 1) by decide +kernel) rfl, fun _ h => absurd h List.not_mem_nil⟩⟩⟩⟩⟩⟩⟩⟩⟩⟩⟩⟩⟩⟩⟩⟩)
def S_X6_growThreads : Nat → Option (List Bool) := fun pc => if pc = 5 then some [false, true] else none
theorem PE_X6_growThreads (K : gK) (Q : gQ) (n : Nat) (lv : gL) (st : List Value) (h : gH) (kc ks : Nat) : grun P_X6_growThreads S_X6_growThreads K Q (n + 1) 0 lv st h kc ks = gi_ald 0 1 (gnx P_X6_growThreads S_X6_growThreads K Q n) Q 0 lv st h kc ks ∧ grun P_X6_growThreads S_X6_growThreads K Q (n + 1) 1 lv st h kc ks = gi_getf 4 4 (gnx P_X6_growThreads S_X6_growThreads K Q n) Q 1 lv st h kc ks ∧ grun P_X6_growThreads S_X6_growThreads K Q (n + 1) 4 lv st h kc ks = gi_ast 1 1 (gnx P_X6_growThreads S_X6_growThreads K Q n) Q 4 lv st h kc ks ∧ grun P_X6_growThreads S_X6_growThreads K Q (n + 1) 5 lv st h kc ks = gi_ald 1 1 (gnx P_X6_growThreads S_X6_growThreads K Q n) Q 5 lv st h kc ks ∧ grun P_X6_growThreads S_X6_growThreads K Q (n + 1) 6 lv st h kc ks = gi_ifnull 27 (gnx P_X6_growThreads S_X6_growThreads K Q n) Q 6 lv st h kc ks ∧ grun P_X6_growThreads S_X6_growThreads K Q (n + 1) 9 lv st h kc ks = gi_ald 1 1 (gnx P_X6_growThreads S_X6_growThreads K Q n) Q 9 lv st h kc ks ∧ grun P_X6_growThreads S_X6_growThreads K Q (n + 1) 10 lv st h kc ks = gi_dup (gnx P_X6_growThreads S_X6_growThreads K Q n) Q 10 lv st h kc ks ∧ grun P_X6_growThreads S_X6_growThreads K Q (n + 1) 11 lv st h kc ks = gi_getf 4 8 (gnx P_X6_growThreads S_X6_growThreads K Q n) Q 11 lv st h kc ks ∧ grun P_X6_growThreads S_X6_growThreads K Q (n + 1) 14 lv st h kc ks = gi_k (.int (nI 1)) 1 (gnx P_X6_growThreads S_X6_growThreads K Q n) Q 14 lv st h kc ks ∧ grun P_X6_growThreads S_X6_growThreads K Q (n + 1) 15 lv st h kc ks = gi_iadd (gnx P_X6_growThreads S_X6_growThreads K Q n) Q 15 lv st h kc ks ∧ grun P_X6_growThreads S_X6_growThreads K Q (n + 1) 16 lv st h kc ks = gi_putf 4 8 .int (gnx P_X6_growThreads S_X6_growThreads K Q n) Q 16 lv st h kc ks ∧ grun P_X6_growThreads S_X6_growThreads K Q (n + 1) 19 lv st h kc ks = gi_ald 1 1 (gnx P_X6_growThreads S_X6_growThreads K Q n) Q 19 lv st h kc ks ∧ grun P_X6_growThreads S_X6_growThreads K Q (n + 1) 20 lv st h kc ks = gi_getf 4 4 (gnx P_X6_growThreads S_X6_growThreads K Q n) Q 20 lv st h kc ks ∧ grun P_X6_growThreads S_X6_growThreads K Q (n + 1) 23 lv st h kc ks = gi_ast 1 1 (gnx P_X6_growThreads S_X6_growThreads K Q n) Q 23 lv st h kc ks ∧ grun P_X6_growThreads S_X6_growThreads K Q (n + 1) 24 lv st h kc ks = gi_goto 5 (gnx P_X6_growThreads S_X6_growThreads K Q n) Q 24 lv st h kc ks ∧ grun P_X6_growThreads S_X6_growThreads K Q (n + 1) 27 lv st h kc ks = gi_vret (gnx P_X6_growThreads S_X6_growThreads K Q n) Q 27 lv st h kc ks := ⟨rfl, rfl, rfl, rfl, rfl, rfl, rfl, rfl, rfl, rfl, rfl, rfl, rfl, rfl, rfl, rfl⟩
theorem PN_X6_growThreads (K : gK) (Q : gQ) (n : Nat) (lv : gL) (st : List Value) (h : gH) (kc ks : Nat) : gnx P_X6_growThreads S_X6_growThreads K Q n 0 lv st h kc ks = grun P_X6_growThreads S_X6_growThreads K Q n 0 lv st h kc ks ∧ gnx P_X6_growThreads S_X6_growThreads K Q n 1 lv st h kc ks = grun P_X6_growThreads S_X6_growThreads K Q n 1 lv st h kc ks ∧ gnx P_X6_growThreads S_X6_growThreads K Q n 4 lv st h kc ks = grun P_X6_growThreads S_X6_growThreads K Q n 4 lv st h kc ks ∧ gnx P_X6_growThreads S_X6_growThreads K Q n 5 lv st h kc ks = K 5 (gmask [false, true] lv) st h kc ks ∧ gnx P_X6_growThreads S_X6_growThreads K Q n 6 lv st h kc ks = grun P_X6_growThreads S_X6_growThreads K Q n 6 lv st h kc ks ∧ gnx P_X6_growThreads S_X6_growThreads K Q n 9 lv st h kc ks = grun P_X6_growThreads S_X6_growThreads K Q n 9 lv st h kc ks ∧ gnx P_X6_growThreads S_X6_growThreads K Q n 10 lv st h kc ks = grun P_X6_growThreads S_X6_growThreads K Q n 10 lv st h kc ks ∧ gnx P_X6_growThreads S_X6_growThreads K Q n 11 lv st h kc ks = grun P_X6_growThreads S_X6_growThreads K Q n 11 lv st h kc ks ∧ gnx P_X6_growThreads S_X6_growThreads K Q n 14 lv st h kc ks = grun P_X6_growThreads S_X6_growThreads K Q n 14 lv st h kc ks ∧ gnx P_X6_growThreads S_X6_growThreads K Q n 15 lv st h kc ks = grun P_X6_growThreads S_X6_growThreads K Q n 15 lv st h kc ks ∧ gnx P_X6_growThreads S_X6_growThreads K Q n 16 lv st h kc ks = grun P_X6_growThreads S_X6_growThreads K Q n 16 lv st h kc ks ∧ gnx P_X6_growThreads S_X6_growThreads K Q n 19 lv st h kc ks = grun P_X6_growThreads S_X6_growThreads K Q n 19 lv st h kc ks ∧ gnx P_X6_growThreads S_X6_growThreads K Q n 20 lv st h kc ks = grun P_X6_growThreads S_X6_growThreads K Q n 20 lv st h kc ks ∧ gnx P_X6_growThreads S_X6_growThreads K Q n 23 lv st h kc ks = grun P_X6_growThreads S_X6_growThreads K Q n 23 lv st h kc ks ∧ gnx P_X6_growThreads S_X6_growThreads K Q n 24 lv st h kc ks = grun P_X6_growThreads S_X6_growThreads K Q n 24 lv st h kc ks ∧ gnx P_X6_growThreads S_X6_growThreads K Q n 27 lv st h kc ks = grun P_X6_growThreads S_X6_growThreads K Q n 27 lv st h kc ks := ⟨rfl, rfl, rfl, rfl, rfl, rfl, rfl, rfl, rfl, rfl, rfl, rfl, rfl, rfl, rfl, rfl⟩
theorem go_X6_growThreads {X : gX} {Q : gQ} (hC : gC M_X6_growThreads.1 M_X6_growThreads.2.1 M_X6_growThreads.2.2.1 M_X6_growThreads.2.2.2.1 M_X6_growThreads.2.2.2.2.1 M_X6_growThreads.2.2.2.2.2.1 M_X6_growThreads.2.2.2.2.2.2 X) (n : Nat) {pc : Nat} {lv : gL} {st : List Value} {h : gH} {kc ks : Nat} (k : grun P_X6_growThreads S_X6_growThreads (gd 2 X Q) Q n pc lv st h kc ks) : gd 2 X Q pc lv st h kc ks := grun_ok PS_X6_growThreads hC S_X6_growThreads n pc lv st h kc ks k
theorem sp_X6_growThreads : gSp 1 0 0 yX6_growThreads [.code yX6_growThreads cX6_growThreads 2 none] T_X6_growThreads := by
  refine gEntry (by decide +kernel) (fun av h Q hT => ?_) (fun X Q hC av h hT => ?_)
  · obtain ⟨m, x, ad, rfl, -⟩ := hT
    exact Nat.le_of_ble_eq_true rfl
  · obtain ⟨m, x, ad, rfl, hh, hm, hpa, k⟩ := hT
    refine go_X6_growThreads hC 60 (lv := [some (.ref (ad 16 m)), none]) ?_
    have key : ∀ n q f h2, (∀ p, q = some p → p < n ∧ p < g_nm x) → holdsX h2 (s_ts f x) ad → gfr h h2 → (∀ h1, holdsX h1 (s_ts (tsA (g_pa x) n q f) x) ad → gfr h h1 → Q (.inl none) h1) → gd 2 X Q 5 [none, some (prV ad q)] [] h2 0 0 := by
      intro n
      induction n with
      | zero =>
        intro q f h2 hq hh2 hf k2
        cases q with
        | none =>
          refine go_X6_growThreads hC 60 ?_
          simp (disch := omega) only [PE_X6_growThreads, PN_X6_growThreads, gi_ald, gi_ast, gi_dup, gi_getf, gi_goto, gi_iadd, gi_ifnull, gi_k, gi_putf, gi_vret, gRcv, List.getElem?_cons_zero, List.getElem?_cons_succ, Nat.reduceAdd, Nat.reduceSub, Nat.reduceLT, Nat.reduceLeDiff, Nat.reduceEqDiff, List.length_cons, List.length_nil, List.set_cons_zero, List.set_cons_succ, gst1, gst2, gcl, Value.category, reduceIte, List.drop_succ_cons, List.drop_zero, List.drop_nil, List.take_succ_cons, List.take_zero, List.take_nil, List.reverse_cons, List.reverse_nil, List.nil_append, List.cons_append, List.map_cons, List.map_nil, List.sum_cons, List.sum_nil, gmask, gcont, Option.toList, true_and, and_true, okf_int, okf_float, okf_ref, okf_null, okf_arr, okf_bool, okf_true, okf_false, Nat.zero_le, Nat.sub_zero, grv, gset_gset, gset_d2, gset_d3, gset_d4, nI_add, nsub, pk_mul, nlt, nle, neq, nlt0, ngt0, nle0, nge0, neq0, npred, nneg1, ncl, vin, vnarc, narc, nar_b0, nar_b1, not_true_eq_false, not_false_eq_true, false_implies, true_implies, implies_true, ite_true, ite_false, Bool.false_eq_true, mk_shl, mk_or, mk_and, prV]
          exact k2 h2 hh2 hf
        | some p => exact absurd (hq p rfl).1 (Nat.not_lt_zero p)
      | succ n ih =>
        intro q f h2 hq hh2 hf k2
        cases q with
        | none =>
          refine go_X6_growThreads hC 60 ?_
          simp (disch := omega) only [PE_X6_growThreads, PN_X6_growThreads, gi_ald, gi_ast, gi_dup, gi_getf, gi_goto, gi_iadd, gi_ifnull, gi_k, gi_putf, gi_vret, gRcv, List.getElem?_cons_zero, List.getElem?_cons_succ, Nat.reduceAdd, Nat.reduceSub, Nat.reduceLT, Nat.reduceLeDiff, Nat.reduceEqDiff, List.length_cons, List.length_nil, List.set_cons_zero, List.set_cons_succ, gst1, gst2, gcl, Value.category, reduceIte, List.drop_succ_cons, List.drop_zero, List.drop_nil, List.take_succ_cons, List.take_zero, List.take_nil, List.reverse_cons, List.reverse_nil, List.nil_append, List.cons_append, List.map_cons, List.map_nil, List.sum_cons, List.sum_nil, gmask, gcont, Option.toList, true_and, and_true, okf_int, okf_float, okf_ref, okf_null, okf_arr, okf_bool, okf_true, okf_false, Nat.zero_le, Nat.sub_zero, grv, gset_gset, gset_d2, gset_d3, gset_d4, nI_add, nsub, pk_mul, nlt, nle, neq, nlt0, ngt0, nle0, nge0, neq0, npred, nneg1, ncl, vin, vnarc, narc, nar_b0, nar_b1, not_true_eq_false, not_false_eq_true, false_implies, true_implies, implies_true, ite_true, ite_false, Bool.false_eq_true, mk_shl, mk_or, mk_and, prV]
          exact k2 h2 hh2 hf
        | some p =>
          obtain ⟨hp1, hp2⟩ := hq p rfl
          have hp3 : p < g_nm (s_ts f x) := by rw [(e_ts _ _).2.2.1]; exact hp2
          have hX := hX16 hh2 hp3
          simp only [e_ts] at hX
          obtain ⟨g1, g2⟩ := hh2.set (x1 := s_ts (gup f p (f p + 1)) x) 16 p hp3 (e := oX 4 [.int (nI p), .ref (ad 9 (g_au x p)), .ref (ad 12 (g_rm x p)), .int (nI (g_rk x p)), prV ad (g_pa x p), .int (nI (g_tm x p)), .int (nI (g_dp x p)), .ref (ad 17 p), .int (nI (f p + 1)), .int (nI (g_mm x p)), .int (nI (g_ed x p)), .int (b2i (g_gone x p))]) (fun k i => (l_ts k i).trans (l_ts k i).symm) (by unfold cellX; simp only [e_ts, gup_at]) (fun k1 i1 e1 hn _ hc => by
            have z := c_ts (v := f p + 1) hn hc
            unfold cellX at z ⊢
            simp only [e_ts] at z ⊢
            exact z)
          have kk := ih _ _ _ (fun p2 hp9 => ⟨Nat.lt_of_lt_of_le (hpa p hp2 p2 hp9) (by omega), Nat.lt_trans (hpa p hp2 p2 hp9) hp2⟩) g1 (hf.trans g2) k2
          refine go_X6_growThreads hC 60 ?_
          cases hpp : g_pa x p with
          | none =>
            rw [hpp] at hX kk
            simp (disch := omega) only [PE_X6_growThreads, PN_X6_growThreads, gi_ald, gi_ast, gi_dup, gi_getf, gi_goto, gi_iadd, gi_ifnull, gi_k, gi_putf, gi_vret, gRcv, List.getElem?_cons_zero, List.getElem?_cons_succ, Nat.reduceAdd, Nat.reduceSub, Nat.reduceLT, Nat.reduceLeDiff, Nat.reduceEqDiff, List.length_cons, List.length_nil, List.set_cons_zero, List.set_cons_succ, gst1, gst2, gcl, Value.category, reduceIte, List.drop_succ_cons, List.drop_zero, List.drop_nil, List.take_succ_cons, List.take_zero, List.take_nil, List.reverse_cons, List.reverse_nil, List.nil_append, List.cons_append, List.map_cons, List.map_nil, List.sum_cons, List.sum_nil, gmask, gcont, Option.toList, true_and, and_true, okf_int, okf_float, okf_ref, okf_null, okf_arr, okf_bool, okf_true, okf_false, Nat.zero_le, Nat.sub_zero, grv, gset_gset, gset_d2, gset_d3, gset_d4, nI_add, nsub, pk_mul, nlt, nle, neq, nlt0, ngt0, nle0, nge0, neq0, npred, nneg1, ncl, vin, vnarc, narc, nar_b0, nar_b1, not_true_eq_false, not_false_eq_true, false_implies, true_implies, implies_true, ite_true, ite_false, Bool.false_eq_true, mk_shl, mk_or, mk_and, prV, hX, gset_self, okf_int]
            exact kk
          | some p2 =>
            rw [hpp] at hX kk
            simp (disch := omega) only [PE_X6_growThreads, PN_X6_growThreads, gi_ald, gi_ast, gi_dup, gi_getf, gi_goto, gi_iadd, gi_ifnull, gi_k, gi_putf, gi_vret, gRcv, List.getElem?_cons_zero, List.getElem?_cons_succ, Nat.reduceAdd, Nat.reduceSub, Nat.reduceLT, Nat.reduceLeDiff, Nat.reduceEqDiff, List.length_cons, List.length_nil, List.set_cons_zero, List.set_cons_succ, gst1, gst2, gcl, Value.category, reduceIte, List.drop_succ_cons, List.drop_zero, List.drop_nil, List.take_succ_cons, List.take_zero, List.take_nil, List.reverse_cons, List.reverse_nil, List.nil_append, List.cons_append, List.map_cons, List.map_nil, List.sum_cons, List.sum_nil, gmask, gcont, Option.toList, true_and, and_true, okf_int, okf_float, okf_ref, okf_null, okf_arr, okf_bool, okf_true, okf_false, Nat.zero_le, Nat.sub_zero, grv, gset_gset, gset_d2, gset_d3, gset_d4, nI_add, nsub, pk_mul, nlt, nle, neq, nlt0, ngt0, nle0, nge0, neq0, npred, nneg1, ncl, vin, vnarc, narc, nar_b0, nar_b1, not_true_eq_false, not_false_eq_true, false_implies, true_implies, implies_true, ite_true, ite_false, Bool.false_eq_true, mk_shl, mk_or, mk_and, prV, hX, gset_self, okf_int]
            exact kk
    have hX := hX16 hh hm
    have kk := key (g_nm x) (g_pa x m) (g_ts x) h (fun p hp => ⟨Nat.lt_trans (hpa m hm p hp) hm, Nat.lt_trans (hpa m hm p hp) hm⟩) hh gfr.rf k
    cases hpp : g_pa x m with
    | none =>
      rw [hpp] at hX kk
      simp (disch := omega) only [PE_X6_growThreads, PN_X6_growThreads, gi_ald, gi_ast, gi_dup, gi_getf, gi_goto, gi_iadd, gi_ifnull, gi_k, gi_putf, gi_vret, gRcv, List.getElem?_cons_zero, List.getElem?_cons_succ, Nat.reduceAdd, Nat.reduceSub, Nat.reduceLT, Nat.reduceLeDiff, Nat.reduceEqDiff, List.length_cons, List.length_nil, List.set_cons_zero, List.set_cons_succ, gst1, gst2, gcl, Value.category, reduceIte, List.drop_succ_cons, List.drop_zero, List.drop_nil, List.take_succ_cons, List.take_zero, List.take_nil, List.reverse_cons, List.reverse_nil, List.nil_append, List.cons_append, List.map_cons, List.map_nil, List.sum_cons, List.sum_nil, gmask, gcont, Option.toList, true_and, and_true, okf_int, okf_float, okf_ref, okf_null, okf_arr, okf_bool, okf_true, okf_false, Nat.zero_le, Nat.sub_zero, grv, gset_gset, gset_d2, gset_d3, gset_d4, nI_add, nsub, pk_mul, nlt, nle, neq, nlt0, ngt0, nle0, nge0, neq0, npred, nneg1, ncl, vin, vnarc, narc, nar_b0, nar_b1, not_true_eq_false, not_false_eq_true, false_implies, true_implies, implies_true, ite_true, ite_false, Bool.false_eq_true, mk_shl, mk_or, mk_and, hX, prV]
      exact kk
    | some p2 =>
      rw [hpp] at hX kk
      simp (disch := omega) only [PE_X6_growThreads, PN_X6_growThreads, gi_ald, gi_ast, gi_dup, gi_getf, gi_goto, gi_iadd, gi_ifnull, gi_k, gi_putf, gi_vret, gRcv, List.getElem?_cons_zero, List.getElem?_cons_succ, Nat.reduceAdd, Nat.reduceSub, Nat.reduceLT, Nat.reduceLeDiff, Nat.reduceEqDiff, List.length_cons, List.length_nil, List.set_cons_zero, List.set_cons_succ, gst1, gst2, gcl, Value.category, reduceIte, List.drop_succ_cons, List.drop_zero, List.drop_nil, List.take_succ_cons, List.take_zero, List.take_nil, List.reverse_cons, List.reverse_nil, List.nil_append, List.cons_append, List.map_cons, List.map_nil, List.sum_cons, List.sum_nil, gmask, gcont, Option.toList, true_and, and_true, okf_int, okf_float, okf_ref, okf_null, okf_arr, okf_bool, okf_true, okf_false, Nat.zero_le, Nat.sub_zero, grv, gset_gset, gset_d2, gset_d3, gset_d4, nI_add, nsub, pk_mul, nlt, nle, neq, nlt0, ngt0, nle0, nge0, neq0, npred, nneg1, ncl, vin, vnarc, narc, nar_b0, nar_b1, not_true_eq_false, not_false_eq_true, false_implies, true_implies, implies_true, ite_true, ite_false, Bool.false_eq_true, mk_shl, mk_or, mk_and, hX, prV]
      exact kk
