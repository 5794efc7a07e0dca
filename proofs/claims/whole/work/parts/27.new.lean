/-! what comes in: users, rooms, messages -/
theorem gob9 {h : gH} {x : gS} {ad : Nat → Nat → Nat} (hh : holdsX h x ad) {l : List Nat} (hl : ∀ u ∈ l, u < g_nu x) : ∀ y ∈ l.map (ad 9), gObj h y := fun y hy => by
  obtain ⟨u, h1, rfl⟩ := List.mem_map.mp hy
  unfold gObj
  rw [hX9 hh (hl u h1)]
  exact ⟨by decide, by decide⟩
def m_reg (x : gS) : gS := s_nu (g_nu x + 1) (s_tok (gup (g_tok x) (g_nu x) 1082130432) (s_seen (gup (g_seen x) (g_nu x) (g_now x)) x))
def adR (ad : Nat → Nat → Nat) (n q b c : Nat) : Nat → Nat → Nat := adU (adU (adU ad 9 n q) 10 n b) 11 n c
theorem adR_of {ad : Nat → Nat → Nat} {n q b c k i : Nat} (h : ¬ ((k = 9 ∨ k = 10 ∨ k = 11) ∧ i = n)) : adR ad n q b c k i = ad k i := by
  unfold adR
  rw [adU_ne (fun z => h ⟨Or.inr (Or.inr z.1), z.2⟩), adU_ne (fun z => h ⟨Or.inr (Or.inl z.1), z.2⟩), adU_ne (fun z => h ⟨Or.inl z.1, z.2⟩)]
theorem adR_9 {ad : Nat → Nat → Nat} {n q b c : Nat} : adR ad n q b c 9 n = q := by
  unfold adR
  rw [adU_ne (by omega), adU_ne (by omega), adU_at]
theorem adR_10 {ad : Nat → Nat → Nat} {n q b c : Nat} : adR ad n q b c 10 n = b := by
  unfold adR
  rw [adU_ne (by omega), adU_at]
theorem adR_11 {ad : Nat → Nat → Nat} {n q b c : Nat} : adR ad n q b c 11 n = c := by
  unfold adR
  rw [adU_at]
theorem l_reg {x : gS} {k i : Nat} (h : liveX (m_reg x) k i) : liveX x k i ∨ ((k = 9 ∨ k = 10 ∨ k = 11) ∧ i = g_nu x) := by
  unfold m_reg at h
  unfold liveX at h ⊢
  simp only [e_nu, e_tok, e_seen] at h
  split at h
  case h_10 => exact (Nat.lt_succ_iff_lt_or_eq.mp h).imp id (fun z => ⟨Or.inl rfl, z⟩)
  case h_11 => exact (Nat.lt_succ_iff_lt_or_eq.mp h).imp id (fun z => ⟨Or.inr (Or.inl rfl), z⟩)
  case h_12 => exact (Nat.lt_succ_iff_lt_or_eq.mp h).imp id (fun z => ⟨Or.inr (Or.inr rfl), z⟩)
  all_goals exact Or.inl h
theorem c_reg {x : gS} {ad : Nat → Nat → Nat} {k i : Nat} {e : gE} (hl : liveX x k i) (hn : k ≠ 1) (hc : cellX x ad k i e) : cellX (m_reg x) ad k i e := by
  unfold m_reg
  unfold cellX at hc ⊢
  simp only [e_nu, e_tok, e_seen]
  split at hc
  case h_2 => exact absurd rfl hn
  case h_10 =>
    rw [gup_of (Nat.ne_of_lt hl), gup_of (Nat.ne_of_lt hl)]
    exact hc
  all_goals exact hc
theorem holdsX.reg {h : gH} {x : gS} {ad : Nat → Nat → Nat} (hh : holdsX h x ad) (hi : iX x) (h0 : g_dr x (g_nu x) = []) {q b c : Nat} {f : Nat → Int32} (hq : h q = none) (hb : h b = none) (hc : h c = none) (n1 : q ≠ b) (n2 : q ≠ c) (n3 : b ≠ c) (h1 : gH) (hh1 : h1 = gset (gset (gset (gset h c (aX .char 20 f)) b (oX 7 [.ref c, .int (nI 0)])) q (oX 8 [.int (nI (g_nu x)), .ref b, .float 1082130432, .int (nI (g_now x))])) (ad 1 0) (lX ((List.range (g_nu x)).map (ad 9) ++ [q]))) : holdsX h1 (m_reg x) (adR ad (g_nu x) q b c) ∧ gfr h h1 := by
  subst hh1
  obtain ⟨f1, f2⟩ := hh.fresh (e := aX .char 20 f) hc
  obtain ⟨f3, f4⟩ := f1.fresh (e := oX 7 [.ref c, .int (nI 0)]) (q := b) (by rw [gset_ne n3]; exact hb)
  obtain ⟨f5, f6⟩ := f3.fresh (e := oX 8 [.int (nI (g_nu x)), .ref b, .float 1082130432, .int (nI (g_now x))]) (q := q) (by rw [gset_ne n1, gset_ne n2]; exact hq)
  have hnl : ∀ k, (k = 9 ∨ k = 10 ∨ k = 11) → ¬ liveX x k (g_nu x) := fun k hk z => by
    rcases hk with rfl | rfl | rfl <;> exact absurd (show g_nu x < g_nu x from z) (Nat.lt_irrefl _)
  have hA : ∀ k i, liveX x k i → adR ad (g_nu x) q b c k i = ad k i := fun k i hl => adR_of (fun z => hnl k z.1 (by rw [← z.2]; exact hl))
  have hfr : ∀ p, h p = none → ∀ k2 i2, liveX x k2 i2 → ad k2 i2 ≠ p := fun p hp k2 i2 hl z => hh.nn hl (by rw [z]; exact hp)
  suffices hx : _ ∧ _ from ⟨hx.1, f2.trans (f4.trans (f6.trans hx.2))⟩
  refine holdsX.ext f5 1 0 rfl (fun k i hl => ?_) (fun k i k2 i2 hl hl2 m1 m2 z => ?_) ?_ (fun k i e hn hl hc => c_reg hl ?_ (cellX_ad hi hA hl hc))
  · rcases l_reg hl with hl | ⟨hk, rfl⟩
    · exact Or.inl ⟨hl, hA k i hl⟩
    · refine Or.inr ⟨hnl k hk, ?_⟩
      rcases hk with rfl | rfl | rfl
      · rw [adR_9]
        refine ⟨⟨_, gset_self _ _ _, ?_⟩, hfr q hq⟩
        unfold m_reg cellX
        simp only [e_nu, e_tok, e_seen, gup_at, adR_10]
      · rw [adR_10]
        refine ⟨⟨_, by rw [gset_ne (Ne.symm n1), gset_self], ?_⟩, hfr b hb⟩
        unfold m_reg cellX
        simp only [e_nu, e_tok, e_seen, h0, adR_11, List.length_nil]
      · rw [adR_11]
        refine ⟨⟨_, by rw [gset_ne (Ne.symm n2), gset_ne (Ne.symm n3), gset_self], f, rfl, ?_⟩, hfr c hc⟩
        unfold m_reg
        simp only [e_nu, e_tok, e_seen, h0]
        intro j hj
        exact absurd hj (Nat.not_lt_zero j)
  · obtain ⟨a1, rfl⟩ := (l_reg hl).resolve_left m1
    obtain ⟨b1, rfl⟩ := (l_reg hl2).resolve_left m2
    refine ⟨?_, rfl⟩
    rcases a1 with rfl | rfl | rfl <;> rcases b1 with rfl | rfl | rfl <;> simp only [adR_9, adR_10, adR_11] at z <;> first | rfl | omega
  · show _ = _
    unfold m_reg
    simp only [e_nu, e_tok, e_seen]
    rw [List.range_succ, List.map_append, List.map_singleton, adR_9, show (List.range (g_nu x)).map (adR ad (g_nu x) q b c 9) = (List.range (g_nu x)).map (ad 9) from List.map_congr_left (fun j hj => hA 9 j (List.mem_range.mp hj))]
  · rcases hn with hn | hn
    · exact hn
    · intro z
      subst z
      exact hn hl
def T_X6_register : gPT := fun av h Q => ∃ (x : gS) (ad : Nat → Nat → Nat), av = [.ref (ad 0 0)] ∧ holdsX h x ad ∧ wX x ∧ (∀ u, g_nu x ≤ u → g_dr x u = []) ∧ pX (o_register x) h ad Q
abbrev M_X6_register : gM := (RX6, cX6_register, 2, (some .int), "register", [], 10)
def L_X6_register : List (Nat × gOp) := [(0, gi_ald 0 1), (1, gi_getf 9 0), (4, gi_callV 2 0 0 0 T_Jx4a65c_size_8abf5), (7, gi_ist 1 1), (8, gi_ild 1 1), (9, gi_k (.int (nI 6)) 2), (11, gi_ic_lt 24), (14, gi_thr "java/lang/IllegalStateException"), (24, gi_ald 0 1), (25, gi_getf 9 0), (28, gi_new 1 8 4 [.int 0, .null, .float 0, .int 0]), (31, gi_dup), (32, gi_ild 1 1), (33, gi_ald 0 1), (34, gi_getf 9 5), (37, gi_callI 2 2 22 T_X5_init), (40, gi_callV 2 1 1 1000 T_Jx4a65c_add_9ea2d), (43, gi_pop), (44, gi_ald 0 1), (45, gi_k (.int (nI 114)) 2), (47, gi_ild 1 1), (48, gi_k (.int ((-1))) 1), (49, gi_k (.int ((-1))) 1), (50, gi_k (.int (nI 0)) 1), (51, gi_callV 9 5 2 1005 T_X6_note), (54, gi_ild 1 1), (55, gi_iret)]
def P_X6_register : Nat → gOp := gtab L_X6_register
theorem PS_X6_register : ∀ pc, gSnd M_X6_register pc (P_X6_register pc) := gtab_ok (
  List.forall_mem_cons.mpr ⟨gs_aload_n (show decode cX6_register 0 = .ok (.aload_n 0, 1) by decide +kernel) rfl,
  List.forall_mem_cons.mpr ⟨gs_getf (ref := "Inglenook") gKX6 (by decide) (show decode cX6_register 1 = .ok (.getfield 10, 3) by decide +kernel) (lw_in 137 (by decide +kernel)) (Or.inl rfl),
  List.forall_mem_cons.mpr ⟨gs_callV gKJx4a65c sp_Jx4a65c_size_8abf5 rfl (show decode cX6_register 4 = .ok (.invokevirtual 39, 3) by decide +kernel) (by decide) (by decide) (lw_in 166 (by decide +kernel)) (lw_in 41 (by decide +kernel)) (lw_in 163 (by decide +kernel)) (lw_in 164 (by decide +kernel)) (lw_in 165 (by decide +kernel)) (by decide +kernel),
  List.forall_mem_cons.mpr ⟨gs_istore_n (show decode cX6_register 7 = .ok (.istore_n 1, 1) by decide +kernel) rfl (by decide),
  List.forall_mem_cons.mpr ⟨gs_iload_n (show decode cX6_register 8 = .ok (.iload_n 1, 1) by decide +kernel) rfl,
  List.forall_mem_cons.mpr ⟨gs_bipush (show decode cX6_register 9 = .ok (.bipush 6, 2) by decide +kernel) (by decide +kernel),
  List.forall_mem_cons.mpr ⟨gs_ic_lt (show decode cX6_register 11 = .ok (.if_icmp .lt 13, 3) by decide +kernel) (by decide),
  List.forall_mem_cons.mpr ⟨gs_thr (text := "there are 6 users") (names := ["java/lang/RuntimeException", "java/lang/Exception"]) (ik := 43) (is := 45) (ic := 47) rfl (show decode cX6_register 14 = .ok (.new 43, 3) by decide +kernel) (show decode cX6_register 17 = .ok (.dup, 1) by decide +kernel) (show decode cX6_register 18 = .ok (.ldc 45, 2) by decide +kernel) (show decode cX6_register 20 = .ok (.invokespecial 47, 3) by decide +kernel) (show decode cX6_register 23 = .ok (.athrow, 1) by decide +kernel) (by decide +kernel) (by decide +kernel) (by decide) (by decide) (lw_in 191 (by decide +kernel)) (lw_in 47 (by decide +kernel)) (by decide +kernel) (by decide +kernel) (by decide +kernel),
  List.forall_mem_cons.mpr ⟨gs_aload_n (show decode cX6_register 24 = .ok (.aload_n 0, 1) by decide +kernel) rfl,
  List.forall_mem_cons.mpr ⟨gs_getf (ref := "Inglenook") gKX6 (by decide) (show decode cX6_register 25 = .ok (.getfield 10, 3) by decide +kernel) (lw_in 137 (by decide +kernel)) (Or.inl rfl),
  List.forall_mem_cons.mpr ⟨gs_new gKX5 (show decode cX6_register 28 = .ok (.new 50, 3) by decide +kernel) (lw_in 263 (by decide +kernel)) (lw_in 264 (by decide +kernel)) (lw_in 48 (by decide +kernel)) (by decide +kernel),
  List.forall_mem_cons.mpr ⟨gs_dup (show decode cX6_register 31 = .ok (.dup, 1) by decide +kernel),
  List.forall_mem_cons.mpr ⟨gs_iload_n (show decode cX6_register 32 = .ok (.iload_n 1, 1) by decide +kernel) rfl,
  List.forall_mem_cons.mpr ⟨gs_aload_n (show decode cX6_register 33 = .ok (.aload_n 0, 1) by decide +kernel) rfl,
  List.forall_mem_cons.mpr ⟨gs_getf (ref := "Inglenook") gKX6 (by decide) (show decode cX6_register 34 = .ok (.getfield 32, 3) by decide +kernel) (lw_in 142 (by decide +kernel)) (Or.inl rfl),
  List.forall_mem_cons.mpr ⟨gs_callI sp_X5_init rfl rfl (show decode cX6_register 37 = .ok (.invokespecial 52, 3) by decide +kernel) (by decide) (by decide) (lw_in 267 (by decide +kernel)) (lw_in 48 (by decide +kernel)) (lw_in 265 (by decide +kernel)) (lw_in 266 (by decide +kernel)) (by decide +kernel),
  List.forall_mem_cons.mpr ⟨gs_callV gKJx4a65c sp_Jx4a65c_add_9ea2d rfl (show decode cX6_register 40 = .ok (.invokevirtual 55, 3) by decide +kernel) (by decide) (by decide) (lw_in 305 (by decide +kernel)) (lw_in 41 (by decide +kernel)) (lw_in 302 (by decide +kernel)) (lw_in 303 (by decide +kernel)) (lw_in 304 (by decide +kernel)) (by decide +kernel),
  List.forall_mem_cons.mpr ⟨gs_pop (show decode cX6_register 43 = .ok (.pop, 1) by decide +kernel),
  List.forall_mem_cons.mpr ⟨gs_aload_n (show decode cX6_register 44 = .ok (.aload_n 0, 1) by decide +kernel) rfl,
  List.forall_mem_cons.mpr ⟨gs_bipush (show decode cX6_register 45 = .ok (.bipush 114, 2) by decide +kernel) (by decide +kernel),
  List.forall_mem_cons.mpr ⟨gs_iload_n (show decode cX6_register 47 = .ok (.iload_n 1, 1) by decide +kernel) rfl,
  List.forall_mem_cons.mpr ⟨gs_iconst (show decode cX6_register 48 = .ok (.iconst (-1), 1) by decide +kernel) (by decide +kernel),
  List.forall_mem_cons.mpr ⟨gs_iconst (show decode cX6_register 49 = .ok (.iconst (-1), 1) by decide +kernel) (by decide +kernel),
  List.forall_mem_cons.mpr ⟨gs_iconst (show decode cX6_register 50 = .ok (.iconst 0, 1) by decide +kernel) (by decide +kernel),
  List.forall_mem_cons.mpr ⟨gs_callV gKX6 sp_X6_note rfl (show decode cX6_register 51 = .ok (.invokevirtual 59, 3) by decide +kernel) (by decide) (by decide) (lw_in 369 (by decide +kernel)) (lw_in 38 (by decide +kernel)) (lw_in 366 (by decide +kernel)) (lw_in 368 (by decide +kernel)) (lw_in 4 (by decide +kernel)) (by decide +kernel),
  List.forall_mem_cons.mpr ⟨gs_iload_n (show decode cX6_register 54 = .ok (.iload_n 1, 1) by decide +kernel) rfl,
  List.forall_mem_cons.mpr ⟨gs_iret (show decode cX6_register 55 = .ok (.ireturn, 1) by decide +kernel) rfl, fun _ h => absurd h List.not_mem_nil⟩⟩⟩⟩⟩⟩⟩⟩⟩⟩⟩⟩⟩⟩⟩⟩⟩⟩⟩⟩⟩⟩⟩⟩⟩⟩⟩)
def S_X6_register : Nat → Option (List Bool) := fun pc => none
theorem PE_X6_register (K : gK) (Q : gQ) (n : Nat) (lv : gL) (st : List Value) (h : gH) (kc ks : Nat) : grun P_X6_register S_X6_register K Q (n + 1) 0 lv st h kc ks = gi_ald 0 1 (gnx P_X6_register S_X6_register K Q n) Q 0 lv st h kc ks ∧ grun P_X6_register S_X6_register K Q (n + 1) 1 lv st h kc ks = gi_getf 9 0 (gnx P_X6_register S_X6_register K Q n) Q 1 lv st h kc ks ∧ grun P_X6_register S_X6_register K Q (n + 1) 4 lv st h kc ks = gi_callV 2 0 0 0 T_Jx4a65c_size_8abf5 (gnx P_X6_register S_X6_register K Q n) Q 4 lv st h kc ks ∧ grun P_X6_register S_X6_register K Q (n + 1) 7 lv st h kc ks = gi_ist 1 1 (gnx P_X6_register S_X6_register K Q n) Q 7 lv st h kc ks ∧ grun P_X6_register S_X6_register K Q (n + 1) 8 lv st h kc ks = gi_ild 1 1 (gnx P_X6_register S_X6_register K Q n) Q 8 lv st h kc ks ∧ grun P_X6_register S_X6_register K Q (n + 1) 9 lv st h kc ks = gi_k (.int (nI 6)) 2 (gnx P_X6_register S_X6_register K Q n) Q 9 lv st h kc ks ∧ grun P_X6_register S_X6_register K Q (n + 1) 11 lv st h kc ks = gi_ic_lt 24 (gnx P_X6_register S_X6_register K Q n) Q 11 lv st h kc ks ∧ grun P_X6_register S_X6_register K Q (n + 1) 14 lv st h kc ks = gi_thr "java/lang/IllegalStateException" (gnx P_X6_register S_X6_register K Q n) Q 14 lv st h kc ks ∧ grun P_X6_register S_X6_register K Q (n + 1) 24 lv st h kc ks = gi_ald 0 1 (gnx P_X6_register S_X6_register K Q n) Q 24 lv st h kc ks ∧ grun P_X6_register S_X6_register K Q (n + 1) 25 lv st h kc ks = gi_getf 9 0 (gnx P_X6_register S_X6_register K Q n) Q 25 lv st h kc ks ∧ grun P_X6_register S_X6_register K Q (n + 1) 28 lv st h kc ks = gi_new 1 8 4 [.int 0, .null, .float 0, .int 0] (gnx P_X6_register S_X6_register K Q n) Q 28 lv st h kc ks ∧ grun P_X6_register S_X6_register K Q (n + 1) 31 lv st h kc ks = gi_dup (gnx P_X6_register S_X6_register K Q n) Q 31 lv st h kc ks ∧ grun P_X6_register S_X6_register K Q (n + 1) 32 lv st h kc ks = gi_ild 1 1 (gnx P_X6_register S_X6_register K Q n) Q 32 lv st h kc ks ∧ grun P_X6_register S_X6_register K Q (n + 1) 33 lv st h kc ks = gi_ald 0 1 (gnx P_X6_register S_X6_register K Q n) Q 33 lv st h kc ks ∧ grun P_X6_register S_X6_register K Q (n + 1) 34 lv st h kc ks = gi_getf 9 5 (gnx P_X6_register S_X6_register K Q n) Q 34 lv st h kc ks ∧ grun P_X6_register S_X6_register K Q (n + 1) 37 lv st h kc ks = gi_callI 2 2 22 T_X5_init (gnx P_X6_register S_X6_register K Q n) Q 37 lv st h kc ks ∧ grun P_X6_register S_X6_register K Q (n + 1) 40 lv st h kc ks = gi_callV 2 1 1 1000 T_Jx4a65c_add_9ea2d (gnx P_X6_register S_X6_register K Q n) Q 40 lv st h kc ks ∧ grun P_X6_register S_X6_register K Q (n + 1) 43 lv st h kc ks = gi_pop (gnx P_X6_register S_X6_register K Q n) Q 43 lv st h kc ks ∧ grun P_X6_register S_X6_register K Q (n + 1) 44 lv st h kc ks = gi_ald 0 1 (gnx P_X6_register S_X6_register K Q n) Q 44 lv st h kc ks ∧ grun P_X6_register S_X6_register K Q (n + 1) 45 lv st h kc ks = gi_k (.int (nI 114)) 2 (gnx P_X6_register S_X6_register K Q n) Q 45 lv st h kc ks ∧ grun P_X6_register S_X6_register K Q (n + 1) 47 lv st h kc ks = gi_ild 1 1 (gnx P_X6_register S_X6_register K Q n) Q 47 lv st h kc ks ∧ grun P_X6_register S_X6_register K Q (n + 1) 48 lv st h kc ks = gi_k (.int ((-1))) 1 (gnx P_X6_register S_X6_register K Q n) Q 48 lv st h kc ks ∧ grun P_X6_register S_X6_register K Q (n + 1) 49 lv st h kc ks = gi_k (.int ((-1))) 1 (gnx P_X6_register S_X6_register K Q n) Q 49 lv st h kc ks ∧ grun P_X6_register S_X6_register K Q (n + 1) 50 lv st h kc ks = gi_k (.int (nI 0)) 1 (gnx P_X6_register S_X6_register K Q n) Q 50 lv st h kc ks ∧ grun P_X6_register S_X6_register K Q (n + 1) 51 lv st h kc ks = gi_callV 9 5 2 1005 T_X6_note (gnx P_X6_register S_X6_register K Q n) Q 51 lv st h kc ks ∧ grun P_X6_register S_X6_register K Q (n + 1) 54 lv st h kc ks = gi_ild 1 1 (gnx P_X6_register S_X6_register K Q n) Q 54 lv st h kc ks ∧ grun P_X6_register S_X6_register K Q (n + 1) 55 lv st h kc ks = gi_iret (gnx P_X6_register S_X6_register K Q n) Q 55 lv st h kc ks := ⟨rfl, rfl, rfl, rfl, rfl, rfl, rfl, rfl, rfl, rfl, rfl, rfl, rfl, rfl, rfl, rfl, rfl, rfl, rfl, rfl, rfl, rfl, rfl, rfl, rfl, rfl, rfl⟩
theorem PN_X6_register (K : gK) (Q : gQ) (n : Nat) (lv : gL) (st : List Value) (h : gH) (kc ks : Nat) : gnx P_X6_register S_X6_register K Q n 0 lv st h kc ks = grun P_X6_register S_X6_register K Q n 0 lv st h kc ks ∧ gnx P_X6_register S_X6_register K Q n 1 lv st h kc ks = grun P_X6_register S_X6_register K Q n 1 lv st h kc ks ∧ gnx P_X6_register S_X6_register K Q n 4 lv st h kc ks = grun P_X6_register S_X6_register K Q n 4 lv st h kc ks ∧ gnx P_X6_register S_X6_register K Q n 7 lv st h kc ks = grun P_X6_register S_X6_register K Q n 7 lv st h kc ks ∧ gnx P_X6_register S_X6_register K Q n 8 lv st h kc ks = grun P_X6_register S_X6_register K Q n 8 lv st h kc ks ∧ gnx P_X6_register S_X6_register K Q n 9 lv st h kc ks = grun P_X6_register S_X6_register K Q n 9 lv st h kc ks ∧ gnx P_X6_register S_X6_register K Q n 11 lv st h kc ks = grun P_X6_register S_X6_register K Q n 11 lv st h kc ks ∧ gnx P_X6_register S_X6_register K Q n 14 lv st h kc ks = grun P_X6_register S_X6_register K Q n 14 lv st h kc ks ∧ gnx P_X6_register S_X6_register K Q n 24 lv st h kc ks = grun P_X6_register S_X6_register K Q n 24 lv st h kc ks ∧ gnx P_X6_register S_X6_register K Q n 25 lv st h kc ks = grun P_X6_register S_X6_register K Q n 25 lv st h kc ks ∧ gnx P_X6_register S_X6_register K Q n 28 lv st h kc ks = grun P_X6_register S_X6_register K Q n 28 lv st h kc ks ∧ gnx P_X6_register S_X6_register K Q n 31 lv st h kc ks = grun P_X6_register S_X6_register K Q n 31 lv st h kc ks ∧ gnx P_X6_register S_X6_register K Q n 32 lv st h kc ks = grun P_X6_register S_X6_register K Q n 32 lv st h kc ks ∧ gnx P_X6_register S_X6_register K Q n 33 lv st h kc ks = grun P_X6_register S_X6_register K Q n 33 lv st h kc ks ∧ gnx P_X6_register S_X6_register K Q n 34 lv st h kc ks = grun P_X6_register S_X6_register K Q n 34 lv st h kc ks ∧ gnx P_X6_register S_X6_register K Q n 37 lv st h kc ks = grun P_X6_register S_X6_register K Q n 37 lv st h kc ks ∧ gnx P_X6_register S_X6_register K Q n 40 lv st h kc ks = grun P_X6_register S_X6_register K Q n 40 lv st h kc ks ∧ gnx P_X6_register S_X6_register K Q n 43 lv st h kc ks = grun P_X6_register S_X6_register K Q n 43 lv st h kc ks ∧ gnx P_X6_register S_X6_register K Q n 44 lv st h kc ks = grun P_X6_register S_X6_register K Q n 44 lv st h kc ks ∧ gnx P_X6_register S_X6_register K Q n 45 lv st h kc ks = grun P_X6_register S_X6_register K Q n 45 lv st h kc ks ∧ gnx P_X6_register S_X6_register K Q n 47 lv st h kc ks = grun P_X6_register S_X6_register K Q n 47 lv st h kc ks ∧ gnx P_X6_register S_X6_register K Q n 48 lv st h kc ks = grun P_X6_register S_X6_register K Q n 48 lv st h kc ks ∧ gnx P_X6_register S_X6_register K Q n 49 lv st h kc ks = grun P_X6_register S_X6_register K Q n 49 lv st h kc ks ∧ gnx P_X6_register S_X6_register K Q n 50 lv st h kc ks = grun P_X6_register S_X6_register K Q n 50 lv st h kc ks ∧ gnx P_X6_register S_X6_register K Q n 51 lv st h kc ks = grun P_X6_register S_X6_register K Q n 51 lv st h kc ks ∧ gnx P_X6_register S_X6_register K Q n 54 lv st h kc ks = grun P_X6_register S_X6_register K Q n 54 lv st h kc ks ∧ gnx P_X6_register S_X6_register K Q n 55 lv st h kc ks = grun P_X6_register S_X6_register K Q n 55 lv st h kc ks := ⟨rfl, rfl, rfl, rfl, rfl, rfl, rfl, rfl, rfl, rfl, rfl, rfl, rfl, rfl, rfl, rfl, rfl, rfl, rfl, rfl, rfl, rfl, rfl, rfl, rfl, rfl, rfl⟩
theorem go_X6_register {X : gX} {Q : gQ} (hC : gC M_X6_register.1 M_X6_register.2.1 M_X6_register.2.2.1 M_X6_register.2.2.2.1 M_X6_register.2.2.2.2.1 M_X6_register.2.2.2.2.2.1 M_X6_register.2.2.2.2.2.2 X) (n : Nat) {pc : Nat} {lv : gL} {st : List Value} {h : gH} {kc ks : Nat} (k : grun P_X6_register S_X6_register (gd 2 X Q) Q n pc lv st h kc ks) : gd 2 X Q pc lv st h kc ks := grun_ok PS_X6_register hC S_X6_register n pc lv st h kc ks k
theorem sp_X6_register : gSp 10 6 2032 yX6_register [.code yX6_register cX6_register 2 (some .int)] T_X6_register := by
  refine gEntry (by decide +kernel) (fun av h Q hT => ?_) (fun X Q hC av h hT => ?_)
  · obtain ⟨x, ad, rfl, -⟩ := hT
    exact Nat.le_of_ble_eq_true rfl
  · obtain ⟨x, ad, rfl, hh, hw, h0, k⟩ := hT
    refine go_X6_register hC 60 (lv := [some (.ref (ad 0 0)), none]) ?_
    have hm : ((List.range (g_nu x)).map (ad 9)).length = g_nu x := by rw [List.length_map, List.length_range]
    have hu := hw.u
    by_cases h6 : 6 ≤ g_nu x
    · simp (disch := omega) only [PE_X6_register, PN_X6_register, gi_ald, gi_callI, gi_callV, gi_dup, gi_getf, gi_ic_lt, gi_ild, gi_iret, gi_ist, gi_k, gi_new, gi_pop, gi_thr, gi_call, gRcv, List.getElem?_cons_zero, List.getElem?_cons_succ, Nat.reduceAdd, Nat.reduceSub, Nat.reduceLT, Nat.reduceLeDiff, Nat.reduceEqDiff, List.length_cons, List.length_nil, List.set_cons_zero, List.set_cons_succ, gst1, gst2, gcl, Value.category, reduceIte, List.drop_succ_cons, List.drop_zero, List.drop_nil, List.take_succ_cons, List.take_zero, List.take_nil, List.reverse_cons, List.reverse_nil, List.nil_append, List.cons_append, List.map_cons, List.map_nil, List.sum_cons, List.sum_nil, gmask, gcont, Option.toList, true_and, and_true, okf_int, okf_float, okf_ref, okf_null, okf_arr, okf_bool, okf_true, okf_false, Nat.zero_le, Nat.sub_zero, grv, gset_gset, gset_d2, gset_d3, gset_d4, nI_add, nsub, pk_mul, nlt, nle, neq, nlt0, ngt0, nle0, nge0, neq0, npred, nneg1, ncl, vin, vnarc, narc, nar_b0, nar_b1, not_true_eq_false, not_false_eq_true, false_implies, true_implies, implies_true, ite_true, ite_false, Bool.false_eq_true, mk_shl, mk_or, mk_and, hX0 hh, hX1 hh, e_size (hX1 hh) hh.he, hm, (show ¬ g_nu x < 6 by omega)]
      exact k.same (if_pos h6) hh
    · simp (disch := omega) only [PE_X6_register, PN_X6_register, gi_ald, gi_callI, gi_callV, gi_dup, gi_getf, gi_ic_lt, gi_ild, gi_iret, gi_ist, gi_k, gi_new, gi_pop, gi_thr, gi_call, gRcv, List.getElem?_cons_zero, List.getElem?_cons_succ, Nat.reduceAdd, Nat.reduceSub, Nat.reduceLT, Nat.reduceLeDiff, Nat.reduceEqDiff, List.length_cons, List.length_nil, List.set_cons_zero, List.set_cons_succ, gst1, gst2, gcl, Value.category, reduceIte, List.drop_succ_cons, List.drop_zero, List.drop_nil, List.take_succ_cons, List.take_zero, List.take_nil, List.reverse_cons, List.reverse_nil, List.nil_append, List.cons_append, List.map_cons, List.map_nil, List.sum_cons, List.sum_nil, gmask, gcont, Option.toList, true_and, and_true, okf_int, okf_float, okf_ref, okf_null, okf_arr, okf_bool, okf_true, okf_false, Nat.zero_le, Nat.sub_zero, grv, gset_gset, gset_d2, gset_d3, gset_d4, nI_add, nsub, pk_mul, nlt, nle, neq, nlt0, ngt0, nle0, nge0, neq0, npred, nneg1, ncl, vin, vnarc, narc, nar_b0, nar_b1, not_true_eq_false, not_false_eq_true, false_implies, true_implies, implies_true, ite_true, ite_false, Bool.false_eq_true, mk_shl, mk_or, mk_and, hX0 hh, hX1 hh, e_size (hX1 hh) hh.he, hm, (show g_nu x < 6 by omega)]
      intro q hq
      obtain ⟨f1, f2⟩ := hh.fresh (e := (true, 1, .inr (.inl (8, [.int 0, .null, .float 0, .int 0])))) hq
      simp (disch := omega) only [PE_X6_register, PN_X6_register, gi_ald, gi_callI, gi_callV, gi_dup, gi_getf, gi_ic_lt, gi_ild, gi_iret, gi_ist, gi_k, gi_new, gi_pop, gi_thr, gi_call, gRcv, List.getElem?_cons_zero, List.getElem?_cons_succ, Nat.reduceAdd, Nat.reduceSub, Nat.reduceLT, Nat.reduceLeDiff, Nat.reduceEqDiff, List.length_cons, List.length_nil, List.set_cons_zero, List.set_cons_succ, gst1, gst2, gcl, Value.category, reduceIte, List.drop_succ_cons, List.drop_zero, List.drop_nil, List.take_succ_cons, List.take_zero, List.take_nil, List.reverse_cons, List.reverse_nil, List.nil_append, List.cons_append, List.map_cons, List.map_nil, List.sum_cons, List.sum_nil, gmask, gcont, Option.toList, true_and, and_true, okf_int, okf_float, okf_ref, okf_null, okf_arr, okf_bool, okf_true, okf_false, Nat.zero_le, Nat.sub_zero, grv, gset_gset, gset_d2, gset_d3, gset_d4, nI_add, nsub, pk_mul, nlt, nle, neq, nlt0, ngt0, nle0, nge0, neq0, npred, nneg1, ncl, vin, vnarc, narc, nar_b0, nar_b1, not_true_eq_false, not_false_eq_true, false_implies, true_implies, implies_true, ite_true, ite_false, Bool.false_eq_true, mk_shl, mk_or, mk_and, hX0 f1]
      refine ⟨q, _, _, _, _, nI (g_nu x), nI (g_now x), rfl, gset_self _ _ _, fun b c n1 n2 n3 hb hc => ?_⟩
      rw [gset_ne n1] at hb
      rw [gset_ne n2] at hc
      rw [gset_d3 (Ne.symm n2) (Ne.symm n1)]
      obtain ⟨p1, -⟩ := hh.fresh (e := aX .char 20 (fun _ => 0)) hc
      obtain ⟨p2, -⟩ := p1.fresh (e := oX 7 [.ref c, .int (nI 0)]) (q := b) (by rw [gset_ne n3]; exact hb)
      obtain ⟨p3, -⟩ := p2.fresh (e := oX 8 [.int (nI (g_nu x)), .ref b, .float 1082130432, .int (nI (g_now x))]) (q := q) (by rw [gset_ne (Ne.symm n1), gset_ne (Ne.symm n2)]; exact hq)
      obtain ⟨g1, g2⟩ := hh.reg (f := fun _ => 0) hw.i (h0 _ (Nat.le_refl _)) hq hb hc (Ne.symm n1) (Ne.symm n2) n3 _ rfl
      have hob := gob9 p3 (l := List.range (g_nu x)) (fun u hu => List.mem_range.mp hu)
      have hoq : gObj (gset (gset (gset h c (aX .char 20 (fun _ => 0))) b (oX 7 [.ref c, .int (nI 0)])) q (oX 8 [.int (nI (g_nu x)), .ref b, .float 1082130432, .int (nI (g_now x))])) q := by
        unfold gObj
        rw [gset_self]
        exact ⟨by decide, by decide⟩
      have e0 : adR ad (g_nu x) q b c 0 0 = ad 0 0 := adR_of (by omega)
      have hX := hX0 g1
      rw [e0] at hX
      simp (disch := omega) only [PE_X6_register, PN_X6_register, gi_ald, gi_callI, gi_callV, gi_dup, gi_getf, gi_ic_lt, gi_ild, gi_iret, gi_ist, gi_k, gi_new, gi_pop, gi_thr, gi_call, gRcv, List.getElem?_cons_zero, List.getElem?_cons_succ, Nat.reduceAdd, Nat.reduceSub, Nat.reduceLT, Nat.reduceLeDiff, Nat.reduceEqDiff, List.length_cons, List.length_nil, List.set_cons_zero, List.set_cons_succ, gst1, gst2, gcl, Value.category, reduceIte, List.drop_succ_cons, List.drop_zero, List.drop_nil, List.take_succ_cons, List.take_zero, List.take_nil, List.reverse_cons, List.reverse_nil, List.nil_append, List.cons_append, List.map_cons, List.map_nil, List.sum_cons, List.sum_nil, gmask, gcont, Option.toList, true_and, and_true, okf_int, okf_float, okf_ref, okf_null, okf_arr, okf_bool, okf_true, okf_false, Nat.zero_le, Nat.sub_zero, grv, gset_gset, gset_d2, gset_d3, gset_d4, nI_add, nsub, pk_mul, nlt, nle, neq, nlt0, ngt0, nle0, nge0, neq0, npred, nneg1, ncl, vin, vnarc, narc, nar_b0, nar_b1, not_true_eq_false, not_false_eq_true, false_implies, true_implies, implies_true, ite_true, ite_false, Bool.false_eq_true, mk_shl, mk_or, mk_and, hX1 p3, e_add (hX1 p3) (show ((List.range (g_nu x)).map (ad 9)).length < 600 by rw [hm]; omega) hoq hob p3.he, hX]
      refine ⟨114, 0, _, _, _, _, _, by rw [e0], g1, by decide, by unfold m_reg; simp only [e_nu, e_tok, e_seen]; exact hw.2.1, fun h2 ad2 q1 q2 q3 => ?_⟩
      simp (disch := omega) only [PE_X6_register, PN_X6_register, gi_ald, gi_callI, gi_callV, gi_dup, gi_getf, gi_ic_lt, gi_ild, gi_iret, gi_ist, gi_k, gi_new, gi_pop, gi_thr, gi_call, gRcv, List.getElem?_cons_zero, List.getElem?_cons_succ, Nat.reduceAdd, Nat.reduceSub, Nat.reduceLT, Nat.reduceLeDiff, Nat.reduceEqDiff, List.length_cons, List.length_nil, List.set_cons_zero, List.set_cons_succ, gst1, gst2, gcl, Value.category, reduceIte, List.drop_succ_cons, List.drop_zero, List.drop_nil, List.take_succ_cons, List.take_zero, List.take_nil, List.reverse_cons, List.reverse_nil, List.nil_append, List.cons_append, List.map_cons, List.map_nil, List.sum_cons, List.sum_nil, gmask, gcont, Option.toList, true_and, and_true, okf_int, okf_float, okf_ref, okf_null, okf_arr, okf_bool, okf_true, okf_false, Nat.zero_le, Nat.sub_zero, grv, gset_gset, gset_d2, gset_d3, gset_d4, nI_add, nsub, pk_mul, nlt, nle, neq, nlt0, ngt0, nle0, nge0, neq0, npred, nneg1, ncl, vin, vnarc, narc, nar_b0, nar_b1, not_true_eq_false, not_false_eq_true, false_implies, true_implies, implies_true, ite_true, ite_false, Bool.false_eq_true, mk_shl, mk_or, mk_and]
      exact k.to (if_neg h6) q1 (g2.trans q2) ((q3 0 0 (by decide)).trans e0)
