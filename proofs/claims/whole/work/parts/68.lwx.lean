/-! each of the law's cases, out of the invariant -/
section LWX
variable {n : Nat} {x : gS}
theorem lx_mem (h : Inv n x) : ∀ r, g_nr x ≤ r → g_mem x r = [] ∧ g_rms x r = [] := fun r hr => by
  refine ⟨h.2.1.2 r hr, ?_⟩
  rw [h.2.2.1.2.1 r]
  refine List.filter_eq_nil_iff.mpr (fun m hm => ?_)
  have a := (h.2.2.1.1 m (List.mem_range.mp hm)).2.1
  intro z
  have z2 : g_rm x m = r := by simpa using z
  omega
theorem lx_rf (h : Inv n x) : g_rf x ≤ 64 := h.1.2.2.2.2.1
theorem lx_tk (h : Inv n x) : ∀ u, u < g_nu x → ∃ k, k ≤ 256 ∧ g_tok x u = tkV k := h.2.2.2.2.2.1
theorem lx_pa (h : Inv n x) : ∀ n, 1 ≤ n → n ≤ 600 → vf_n32 (FP.fmul (FP.i2f (nI n)) (FP.i2f (nI (g_rf x)))) ∧ vf_n32 (gainV n (g_rf x)) ∧ ∀ u, u < g_nu x → vf_n32 (FP.fadd (g_tok x u) (gainV n (g_rf x))) := fun n h1 h2 => by
  have hr := lx_rf h
  have hm : n * g_rf x ≤ 600 * 64 := Nat.mul_le_mul h2 hr
  refine ⟨?_, ?_, fun u hu => ?_⟩
  · rw [i2f_mul h1 h2 hr]
    exact i2f_n (by omega)
  · rw [gain_tk h1 h2 hr]
    exact tk_n (by omega)
  · obtain ⟨k, hk, e⟩ := lx_tk h u hu
    rw [e, gain_tk h1 h2 hr, tk_add (by omega) (by omega)]
    exact tk_n (by omega)
theorem lx_cv {k : Nat} (hk : k < 100000) : (0 < Op.cmpValue (FP.fcmp (tkV k) 1082130432) .l → 256 < k) ∧ (256 < k → 0 < Op.cmpValue (FP.fcmp (tkV k) 1082130432) .l) := by
  rw [tk_cmp hk]
  by_cases h1 : k < 256
  · rw [if_pos h1]
    exact ⟨fun z => absurd z (by decide +kernel), fun z => by omega⟩
  · rw [if_neg h1]
    by_cases h2 : k = 256
    · rw [if_pos h2]
      exact ⟨fun z => absurd z (by decide +kernel), fun z => by omega⟩
    · rw [if_neg h2]
      exact ⟨fun _ => by omega, fun _ => by decide +kernel⟩
theorem lx_pb (h : Inv n x) : ∀ n, 1 ≤ n → n ≤ 600 → FP.fdiv (FP.i2f (nI (n * g_rf x))) 1115684864 = gainV n (g_rf x) ∧ vf_n32 (gainV n (g_rf x)) ∧ ∀ u, u < g_nu x → vf_n32 (FP.fadd (g_tok x u) (gainV n (g_rf x))) ∧ (0 < Op.cmpValue (FP.fcmp (FP.fadd (g_tok x u) (gainV n (g_rf x))) 1082130432) .l → clsT (g_tok x u) (gainV n (g_rf x)) = 1082130432) ∧ (¬ 0 < Op.cmpValue (FP.fcmp (FP.fadd (g_tok x u) (gainV n (g_rf x))) 1082130432) .l → clsT (g_tok x u) (gainV n (g_rf x)) = FP.fadd (g_tok x u) (gainV n (g_rf x))) := fun n h1 h2 => by
  have hr := lx_rf h
  have hm : n * g_rf x ≤ 600 * 64 := Nat.mul_le_mul h2 hr
  refine ⟨?_, ?_, fun u hu => ?_⟩
  · rw [gain_tk h1 h2 hr]
    rfl
  · rw [gain_tk h1 h2 hr]
    exact tk_n (by omega)
  · obtain ⟨k, hk, e⟩ := lx_tk h u hu
    rw [e, gain_tk h1 h2 hr, cls_tk hk (by omega), tk_add (by omega) (by omega)]
    have c := lx_cv (k := k + n * g_rf x) (by omega)
    refine ⟨tk_n (by omega), fun z => ?_, fun z => ?_⟩
    · have z2 := c.1 z
      rw [tk_256, show min 256 (k + n * g_rf x) = 256 by omega]
    · have z2 : ¬ 256 < k + n * g_rf x := fun q => z (c.2 q)
      rw [show min 256 (k + n * g_rf x) = k + n * g_rf x by omega]
theorem lx_1 (h : Inv n x) : ∀ i, i < g_nu x → ¬ Op.cmpValue (FP.fcmp (g_tok x i) FP.fconst1) .g < 0 → vf_n32 (FP.fsub (g_tok x i) FP.fconst1) := fun i hi z => by
  obtain ⟨k, hk, e⟩ := lx_tk h i hi
  rw [e] at z ⊢
  exact (tk_1 k (by omega) z).1
theorem lx_h (h : Inv n x) : ∀ i, i < g_nu x → ¬ Op.cmpValue (FP.fcmp (g_tok x i) 1056964608) .g < 0 → vf_n32 (FP.fsub (g_tok x i) 1056964608) := fun i hi z => by
  obtain ⟨k, hk, e⟩ := lx_tk h i hi
  rw [e] at z ⊢
  exact (tk_h k (by omega) z).1
theorem lx_td (h : Inv n x) {u : Int32} : ∀ n, (o_tokens x u).1 = .inl (some (.float n)) → vf_n64 (FP.f2d n) ∧ Op.cmpValue (FP.dcmp (FP.f2d n) (FP.f2d n)) .l = 0 := fun w e => by
  unfold o_tokens wU at e
  split at e
  · cases e
  · rename_i i hi
    have hi2 := (gix_some (by have := h.1.1; omega) hi).1
    obtain ⟨k, hk, e2⟩ := lx_tk h i hi2
    have e3 : w = g_tok x i := by
      have z : (Sum.inl (some (Value.float (g_tok x i))) : gO) = .inl (some (.float w)) := e
      cases z
      rfl
    rw [e3, e2]
    exact ⟨(tk_d k (by omega)).1, (tk_d k (by omega)).2.1⟩
theorem lx_b : ∀ k, k ≤ 256 → ∃ n, (¬ 0 < Op.cmpValue (FP.fcmp (tkV k) FP.fconst0) .g → (tkV k).toInt32 = nI 0) ∧ (0 < Op.cmpValue (FP.fcmp (tkV k) FP.fconst0) .g → bofH n (tkV k) (nI 0) = some (tkV k).toInt32) := fun k hk => ⟨30, tk_bits k (by omega)⟩
theorem lx_be (h : Inv n x) : ∀ u, u < g_nu x → FP.fcmp (g_tok x u) (g_tok x u) = some .eq := fun u hu => by
  obtain ⟨k, hk, e⟩ := lx_tk h u hu
  rw [e]
  exact (tk_d k (by omega)).2.2
theorem lx_fit : ∀ k i, k < g_nm x → fitN x (g_nm x - (k + 1)) (k + 1) k i < g_nm x := fun k i hk => fit_lt _ _ _ _ (by omega) hk
theorem lx_un (h : Inv n x) {u r : Int32} {b : Bool} : o_unreadLog x u r b = o_unread x u r b := by
  unfold o_unreadLog o_unread wU
  split
  · rfl
  · rename_i i hi
    unfold wR
    split
    · rfl
    · rename_i j hj
      have hi2 := (gix_some (by have := h.1.1; omega) hi).1
      obtain ⟨hj2, hj3⟩ := gix_some (by have := h.1.2.1; omega) hj
      dsimp only
      by_cases hm : i ∈ g_mem x j
      · rw [if_pos hm, if_pos hm, hj3, unL_ok (h.2.2.2.2.2.2.2.2 j (by have := h.1.2.1; omega) i (by have := h.1.1; omega)) hm]
      · rw [if_neg hm, if_neg hm]
theorem lx_sf : ∀ a b, a ≤ 6 → 1 ≤ b → b ≤ 6 → vf_n32 (FP.fdiv (FP.i2f (nI a)) (FP.i2f (nI b))) := fun a b h1 h2 h3 => (shr_ok a (by omega) b (by omega) h2).1
theorem lx_sd (h : Inv n x) (hn : n < 512) {u : Int32} : ∀ n, (o_seenShare x u).1 = .inl (some (.float n)) → vf_n64 (FP.f2d n) ∧ Op.cmpValue (FP.dcmp (FP.f2d n) (FP.f2d n)) .l = 0 := fun w e => by
  unfold o_seenShare wM at e
  split at e
  · cases e
  · rename_i k hk
    dsimp only at e
    by_cases h0 : othr x k = 0
    · rw [if_pos h0] at e
      cases e
    · rw [if_neg h0] at e
      have hl : (g_mem x (g_rm x k)).length ≤ 6 := Nat.le_trans (nodup_le _ _ (h.2.1.1 _).1 (h.2.1.1 _).2) h.1.1
      have ho : othr x k ≤ 6 := by
        unfold othr
        exact Nat.le_trans List.countP_le_length hl
      have hr : rdrs x k ≤ 6 := by
        unfold rdrs
        exact Nat.le_trans List.countP_le_length hl
      have e3 : w = FP.fdiv (FP.i2f (nI (rdrs x k))) (FP.i2f (nI (othr x k))) := by
        have z : (Sum.inl (some (Value.float (FP.fdiv (FP.i2f (nI (rdrs x k))) (FP.i2f (nI (othr x k)))))) : gO) = .inl (some (.float w)) := e
        cases z
        rfl
      rw [e3]
      have s := shr_ok (rdrs x k) (by omega) (othr x k) (by omega) (by omega)
      exact ⟨s.2.1, s.2.2⟩
theorem lx_ad (h : Inv n x) (hn : n < 512) {u : Int32} : ∀ n, (o_activity x u).1 = .inl (some (.double n)) → Op.cmpValue (FP.dcmp (n) (n)) .l = 0 := fun w e => by
  unfold o_activity wU at e
  split at e
  · cases e
  · rename_i i hi
    have e3 : w = actF x i (g_nm x) := by
      have z : (Sum.inl (some (Value.double (actF x i (g_nm x)))) : gO) = .inl (some (.double w)) := e
      cases z
      rfl
    rw [e3, act_s (h.i (by omega))]
    rfl
end LWX
theorem gle_rfl {a : gL} : gle a a := fun _ _ h => h
/-- behind the case's call: the loop goes on -/
def lwK (X : gX) (Q : gQ) (n : Nat) (a0 : Nat) (am : Nat → Nat) (b L q3 q4 i kc ks : Nat) (xs : Nat → Int32) : Prop := ∀ h1 x1 ad1, Inv (n + 1) x1 → lawI h1 x1 ad1 am b L q3 q4 xs → ad1 0 0 = a0 → gd 9 X Q 3349 [some (.ref b), some (.ref a0), some (.ref (am 0)), some (.ref q3), some (.ref q4), some (.int (nI i)), none, none, none] [] h1 kc ks

theorem st_0 {X : gX} {Q : gQ} (hC : gC M_L_law_c0.1 M_L_law_c0.2.1 M_L_law_c0.2.2.1 M_L_law_c0.2.2.2.1 M_L_law_c0.2.2.2.2.1 M_L_law_c0.2.2.2.2.2.1 M_L_law_c0.2.2.2.2.2.2 X) {n : Nat} {h : gH} {x : gS} {ad : Nat → Nat → Nat} {am : Nat → Nat} {a0 b L q3 q4 i kc ks : Nat} {xs : Nat → Int32} (hI : lawI h x ad am b L q3 q4 xs) (h0 : ad 0 0 = a0) (hV : Inv n x) (hn : n < 512) (hi : i + 4 ≤ L) (hL : L ≤ 2048) (hk : 10 ≤ kc) (hks : 3063 ≤ ks) (k : lwK X Q n a0 am b L q3 q4 i (kc - 10) (ks - 3063) xs) : gd 9 X Q 272 [some (.ref b), some (.ref a0), some (.ref (am 0)), some (.ref q3), some (.ref q4), some (.int (nI i)), none, none, none] [] h kc ks := by
  subst h0
  exact case_0 hC hI (hV.w hn) (hV.v hn) hi hL (by omega) (by omega) hV.2.2.2.1.2.1 (fun h1 ad1 z1 z2 => gd_le gle_rfl (by omega) (by omega) (k h1 _ ad1 (k_register hV hn) z1 z2))
theorem st_1 {X : gX} {Q : gQ} (hC : gC M_L_law_c1.1 M_L_law_c1.2.1 M_L_law_c1.2.2.1 M_L_law_c1.2.2.2.1 M_L_law_c1.2.2.2.2.1 M_L_law_c1.2.2.2.2.2.1 M_L_law_c1.2.2.2.2.2.2 X) {n : Nat} {h : gH} {x : gS} {ad : Nat → Nat → Nat} {am : Nat → Nat} {a0 b L q3 q4 i kc ks : Nat} {xs : Nat → Int32} (hI : lawI h x ad am b L q3 q4 xs) (h0 : ad 0 0 = a0) (hV : Inv n x) (hn : n < 512) (hi : i + 4 ≤ L) (hL : L ≤ 2048) (hk : 10 ≤ kc) (hks : 3063 ≤ ks) (k : lwK X Q n a0 am b L q3 q4 i (kc - 10) (ks - 3063) xs) : gd 9 X Q 316 [some (.ref b), some (.ref a0), some (.ref (am 0)), some (.ref q3), some (.ref q4), some (.int (nI i)), none, none, none] [] h kc ks := by
  subst h0
  exact case_1 hC hI (hV.w hn) (hV.v hn) hi hL (by omega) (by omega) (fun h1 ad1 z1 z2 => gd_le gle_rfl (by omega) (by omega) (k h1 _ ad1 (k_beat (xs (i + 1)) hV hn) z1 z2))
theorem st_2 {X : gX} {Q : gQ} (hC : gC M_L_law_c2.1 M_L_law_c2.2.1 M_L_law_c2.2.2.1 M_L_law_c2.2.2.2.1 M_L_law_c2.2.2.2.2.1 M_L_law_c2.2.2.2.2.2.1 M_L_law_c2.2.2.2.2.2.2 X) {n : Nat} {h : gH} {x : gS} {ad : Nat → Nat → Nat} {am : Nat → Nat} {a0 b L q3 q4 i kc ks : Nat} {xs : Nat → Int32} (hI : lawI h x ad am b L q3 q4 xs) (h0 : ad 0 0 = a0) (hV : Inv n x) (hn : n < 512) (hi : i + 4 ≤ L) (hL : L ≤ 2048) (hk : 10 ≤ kc) (hks : 3063 ≤ ks) (k : lwK X Q n a0 am b L q3 q4 i (kc - 10) (ks - 3063) xs) : gd 9 X Q 372 [some (.ref b), some (.ref a0), some (.ref (am 0)), some (.ref q3), some (.ref q4), some (.int (nI i)), none, none, none] [] h kc ks := by
  subst h0
  exact case_2 hC hI (hV.w hn) (hV.v hn) hi hL (by omega) (by omega) (lx_pa hV) (lx_pb hV) (fun h1 ad1 z1 z2 => gd_le gle_rfl (by omega) (by omega) (k h1 _ ad1 (k_pass (xs (i + 1)) hV hn) z1 z2))
theorem st_3 {X : gX} {Q : gQ} (hC : gC M_L_law_c3.1 M_L_law_c3.2.1 M_L_law_c3.2.2.1 M_L_law_c3.2.2.2.1 M_L_law_c3.2.2.2.2.1 M_L_law_c3.2.2.2.2.2.1 M_L_law_c3.2.2.2.2.2.2 X) {n : Nat} {h : gH} {x : gS} {ad : Nat → Nat → Nat} {am : Nat → Nat} {a0 b L q3 q4 i kc ks : Nat} {xs : Nat → Int32} (hI : lawI h x ad am b L q3 q4 xs) (h0 : ad 0 0 = a0) (hV : Inv n x) (hn : n < 512) (hi : i + 4 ≤ L) (hL : L ≤ 2048) (hk : 10 ≤ kc) (hks : 3063 ≤ ks) (k : lwK X Q n a0 am b L q3 q4 i (kc - 10) (ks - 3063) xs) : gd 9 X Q 428 [some (.ref b), some (.ref a0), some (.ref (am 0)), some (.ref q3), some (.ref q4), some (.int (nI i)), none, none, none] [] h kc ks := by
  subst h0
  exact case_3 hC hI (hV.w hn) (hV.v hn) hi hL (by omega) (by omega) (fun h1 ad1 z1 z2 => gd_le gle_rfl (by omega) (by omega) (k h1 _ ad1 (k_setRefill (xs (i + 1)) hV hn) z1 z2))
theorem st_4 {X : gX} {Q : gQ} (hC : gC M_L_law_c4.1 M_L_law_c4.2.1 M_L_law_c4.2.2.1 M_L_law_c4.2.2.2.1 M_L_law_c4.2.2.2.2.1 M_L_law_c4.2.2.2.2.2.1 M_L_law_c4.2.2.2.2.2.2 X) {n : Nat} {h : gH} {x : gS} {ad : Nat → Nat → Nat} {am : Nat → Nat} {a0 b L q3 q4 i kc ks : Nat} {xs : Nat → Int32} (hI : lawI h x ad am b L q3 q4 xs) (h0 : ad 0 0 = a0) (hV : Inv n x) (hn : n < 512) (hi : i + 4 ≤ L) (hL : L ≤ 2048) (hk : 10 ≤ kc) (hks : 3063 ≤ ks) (k : lwK X Q n a0 am b L q3 q4 i (kc - 10) (ks - 3063) xs) : gd 9 X Q 484 [some (.ref b), some (.ref a0), some (.ref (am 0)), some (.ref q3), some (.ref q4), some (.int (nI i)), none, none, none] [] h kc ks := by
  subst h0
  exact case_4 hC hI (hV.w hn) (hV.v hn) hi hL (by omega) (by omega) (lx_mem hV) (fun h1 ad1 z1 z2 => gd_le gle_rfl (by omega) (by omega) (k h1 _ ad1 (k_open (xs (i + 1)) hV hn) z1 z2))
theorem st_5 {X : gX} {Q : gQ} (hC : gC M_L_law_c5.1 M_L_law_c5.2.1 M_L_law_c5.2.2.1 M_L_law_c5.2.2.2.1 M_L_law_c5.2.2.2.2.1 M_L_law_c5.2.2.2.2.2.1 M_L_law_c5.2.2.2.2.2.2 X) {n : Nat} {h : gH} {x : gS} {ad : Nat → Nat → Nat} {am : Nat → Nat} {a0 b L q3 q4 i kc ks : Nat} {xs : Nat → Int32} (hI : lawI h x ad am b L q3 q4 xs) (h0 : ad 0 0 = a0) (hV : Inv n x) (hn : n < 512) (hi : i + 4 ≤ L) (hL : L ≤ 2048) (hk : 10 ≤ kc) (hks : 3063 ≤ ks) (k : lwK X Q n a0 am b L q3 q4 i (kc - 10) (ks - 3063) xs) : gd 9 X Q 540 [some (.ref b), some (.ref a0), some (.ref (am 0)), some (.ref q3), some (.ref q4), some (.int (nI i)), none, none, none] [] h kc ks := by
  subst h0
  exact case_5 hC hI (hV.w hn) (hV.v hn) hi hL (by omega) (by omega) (fun h1 ad1 z1 z2 => gd_le gle_rfl (by omega) (by omega) (k h1 _ ad1 (k_join (xs (i + 1)) (xs (i + 2)) hV hn) z1 z2))
theorem st_6 {X : gX} {Q : gQ} (hC : gC M_L_law_c6.1 M_L_law_c6.2.1 M_L_law_c6.2.2.1 M_L_law_c6.2.2.2.1 M_L_law_c6.2.2.2.2.1 M_L_law_c6.2.2.2.2.2.1 M_L_law_c6.2.2.2.2.2.2 X) {n : Nat} {h : gH} {x : gS} {ad : Nat → Nat → Nat} {am : Nat → Nat} {a0 b L q3 q4 i kc ks : Nat} {xs : Nat → Int32} (hI : lawI h x ad am b L q3 q4 xs) (h0 : ad 0 0 = a0) (hV : Inv n x) (hn : n < 512) (hi : i + 4 ≤ L) (hL : L ≤ 2048) (hk : 10 ≤ kc) (hks : 3063 ≤ ks) (k : lwK X Q n a0 am b L q3 q4 i (kc - 10) (ks - 3063) xs) : gd 9 X Q 608 [some (.ref b), some (.ref a0), some (.ref (am 0)), some (.ref q3), some (.ref q4), some (.int (nI i)), none, none, none] [] h kc ks := by
  subst h0
  exact case_6 hC hI (hV.w hn) (hV.v hn) hi hL (by omega) (by omega) (fun h1 ad1 z1 z2 => gd_le gle_rfl (by omega) (by omega) (k h1 _ ad1 (k_leave (xs (i + 1)) (xs (i + 2)) hV hn) z1 z2))
theorem st_7 {X : gX} {Q : gQ} (hC : gC M_L_law_c7.1 M_L_law_c7.2.1 M_L_law_c7.2.2.1 M_L_law_c7.2.2.2.1 M_L_law_c7.2.2.2.2.1 M_L_law_c7.2.2.2.2.2.1 M_L_law_c7.2.2.2.2.2.2 X) {n : Nat} {h : gH} {x : gS} {ad : Nat → Nat → Nat} {am : Nat → Nat} {a0 b L q3 q4 i kc ks : Nat} {xs : Nat → Int32} (hI : lawI h x ad am b L q3 q4 xs) (h0 : ad 0 0 = a0) (hV : Inv n x) (hn : n < 512) (hi : i + 4 ≤ L) (hL : L ≤ 2048) (hk : 10 ≤ kc) (hks : 3063 ≤ ks) (k : lwK X Q n a0 am b L q3 q4 i (kc - 10) (ks - 3063) xs) : gd 9 X Q 676 [some (.ref b), some (.ref a0), some (.ref (am 0)), some (.ref q3), some (.ref q4), some (.int (nI i)), none, none, none] [] h kc ks := by
  subst h0
  exact case_7 hC hI (hV.w hn) (hV.v hn) hi hL (by omega) (by omega) (fun h1 ad1 z1 z2 => gd_le gle_rfl (by omega) (by omega) (k h1 _ ad1 (k_type (xs (i + 1)) (((xs (i + 2)).toUInt32 % 65536).toInt32) hV hn) z1 z2))
theorem st_8 {X : gX} {Q : gQ} (hC : gC M_L_law_c8.1 M_L_law_c8.2.1 M_L_law_c8.2.2.1 M_L_law_c8.2.2.2.1 M_L_law_c8.2.2.2.2.1 M_L_law_c8.2.2.2.2.2.1 M_L_law_c8.2.2.2.2.2.2 X) {n : Nat} {h : gH} {x : gS} {ad : Nat → Nat → Nat} {am : Nat → Nat} {a0 b L q3 q4 i kc ks : Nat} {xs : Nat → Int32} (hI : lawI h x ad am b L q3 q4 xs) (h0 : ad 0 0 = a0) (hV : Inv n x) (hn : n < 512) (hi : i + 4 ≤ L) (hL : L ≤ 2048) (hk : 10 ≤ kc) (hks : 3063 ≤ ks) (k : lwK X Q n a0 am b L q3 q4 i (kc - 10) (ks - 3063) xs) : gd 9 X Q 746 [some (.ref b), some (.ref a0), some (.ref (am 0)), some (.ref q3), some (.ref q4), some (.int (nI i)), none, none, none] [] h kc ks := by
  subst h0
  exact case_8 hC hI (hV.w hn) (hV.v hn) hi hL (by omega) (by omega) (fun h1 ad1 z1 z2 => gd_le gle_rfl (by omega) (by omega) (k h1 _ ad1 (k_insert (xs (i + 1)) (xs (i + 2)) (((xs (i + 3)).toUInt32 % 65536).toInt32) hV hn) z1 z2))
theorem st_9 {X : gX} {Q : gQ} (hC : gC M_L_law_c9.1 M_L_law_c9.2.1 M_L_law_c9.2.2.1 M_L_law_c9.2.2.2.1 M_L_law_c9.2.2.2.2.1 M_L_law_c9.2.2.2.2.2.1 M_L_law_c9.2.2.2.2.2.2 X) {n : Nat} {h : gH} {x : gS} {ad : Nat → Nat → Nat} {am : Nat → Nat} {a0 b L q3 q4 i kc ks : Nat} {xs : Nat → Int32} (hI : lawI h x ad am b L q3 q4 xs) (h0 : ad 0 0 = a0) (hV : Inv n x) (hn : n < 512) (hi : i + 4 ≤ L) (hL : L ≤ 2048) (hk : 10 ≤ kc) (hks : 3063 ≤ ks) (k : lwK X Q n a0 am b L q3 q4 i (kc - 10) (ks - 3063) xs) : gd 9 X Q 828 [some (.ref b), some (.ref a0), some (.ref (am 0)), some (.ref q3), some (.ref q4), some (.int (nI i)), none, none, none] [] h kc ks := by
  subst h0
  exact case_9 hC hI (hV.w hn) (hV.v hn) hi hL (by omega) (by omega) (fun h1 ad1 z1 z2 => gd_le gle_rfl (by omega) (by omega) (k h1 _ ad1 (k_erase (xs (i + 1)) hV hn) z1 z2))
theorem st_10 {X : gX} {Q : gQ} (hC : gC M_L_law_c10.1 M_L_law_c10.2.1 M_L_law_c10.2.2.1 M_L_law_c10.2.2.2.1 M_L_law_c10.2.2.2.2.1 M_L_law_c10.2.2.2.2.2.1 M_L_law_c10.2.2.2.2.2.2 X) {n : Nat} {h : gH} {x : gS} {ad : Nat → Nat → Nat} {am : Nat → Nat} {a0 b L q3 q4 i kc ks : Nat} {xs : Nat → Int32} (hI : lawI h x ad am b L q3 q4 xs) (h0 : ad 0 0 = a0) (hV : Inv n x) (hn : n < 512) (hi : i + 4 ≤ L) (hL : L ≤ 2048) (hk : 10 ≤ kc) (hks : 3063 ≤ ks) (k : lwK X Q n a0 am b L q3 q4 i (kc - 10) (ks - 3063) xs) : gd 9 X Q 884 [some (.ref b), some (.ref a0), some (.ref (am 0)), some (.ref q3), some (.ref q4), some (.int (nI i)), none, none, none] [] h kc ks := by
  subst h0
  exact case_10 hC hI (hV.w hn) (hV.v hn) hi hL (by omega) (by omega) (fun h1 ad1 z1 z2 => gd_le gle_rfl (by omega) (by omega) (k h1 _ ad1 (k_reverse (xs (i + 1)) hV hn) z1 z2))
theorem st_11 {X : gX} {Q : gQ} (hC : gC M_L_law_c11.1 M_L_law_c11.2.1 M_L_law_c11.2.2.1 M_L_law_c11.2.2.2.1 M_L_law_c11.2.2.2.2.1 M_L_law_c11.2.2.2.2.2.1 M_L_law_c11.2.2.2.2.2.2 X) {n : Nat} {h : gH} {x : gS} {ad : Nat → Nat → Nat} {am : Nat → Nat} {a0 b L q3 q4 i kc ks : Nat} {xs : Nat → Int32} (hI : lawI h x ad am b L q3 q4 xs) (h0 : ad 0 0 = a0) (hV : Inv n x) (hn : n < 512) (hi : i + 4 ≤ L) (hL : L ≤ 2048) (hk : 10 ≤ kc) (hks : 3063 ≤ ks) (k : lwK X Q n a0 am b L q3 q4 i (kc - 10) (ks - 3063) xs) : gd 9 X Q 940 [some (.ref b), some (.ref a0), some (.ref (am 0)), some (.ref q3), some (.ref q4), some (.int (nI i)), none, none, none] [] h kc ks := by
  subst h0
  exact case_11 hC hI (hV.w hn) (hV.v hn) hi hL (by omega) (by omega) (lx_1 hV) (lx_1 hV) (fun h1 ad1 z1 z2 => gd_le gle_rfl (by omega) (by omega) (k h1 _ ad1 (k_say (xs (i + 1)) (xs (i + 2)) hV hn) z1 z2))
theorem st_12 {X : gX} {Q : gQ} (hC : gC M_L_law_c12.1 M_L_law_c12.2.1 M_L_law_c12.2.2.1 M_L_law_c12.2.2.2.1 M_L_law_c12.2.2.2.2.1 M_L_law_c12.2.2.2.2.2.1 M_L_law_c12.2.2.2.2.2.2 X) {n : Nat} {h : gH} {x : gS} {ad : Nat → Nat → Nat} {am : Nat → Nat} {a0 b L q3 q4 i kc ks : Nat} {xs : Nat → Int32} (hI : lawI h x ad am b L q3 q4 xs) (h0 : ad 0 0 = a0) (hV : Inv n x) (hn : n < 512) (hi : i + 4 ≤ L) (hL : L ≤ 2048) (hk : 10 ≤ kc) (hks : 3063 ≤ ks) (k : lwK X Q n a0 am b L q3 q4 i (kc - 10) (ks - 3063) xs) : gd 9 X Q 1008 [some (.ref b), some (.ref a0), some (.ref (am 0)), some (.ref q3), some (.ref q4), some (.int (nI i)), none, none, none] [] h kc ks := by
  subst h0
  exact case_12 hC hI (hV.w hn) (hV.v hn) hi hL (by omega) (by omega) (lx_1 hV) (lx_1 hV) (fun h1 ad1 z1 z2 => gd_le gle_rfl (by omega) (by omega) (k h1 _ ad1 (k_reply (xs (i + 1)) (xs (i + 2)) hV hn) z1 z2))
theorem st_13 {X : gX} {Q : gQ} (hC : gC M_L_law_c13.1 M_L_law_c13.2.1 M_L_law_c13.2.2.1 M_L_law_c13.2.2.2.1 M_L_law_c13.2.2.2.2.1 M_L_law_c13.2.2.2.2.2.1 M_L_law_c13.2.2.2.2.2.2 X) {n : Nat} {h : gH} {x : gS} {ad : Nat → Nat → Nat} {am : Nat → Nat} {a0 b L q3 q4 i kc ks : Nat} {xs : Nat → Int32} (hI : lawI h x ad am b L q3 q4 xs) (h0 : ad 0 0 = a0) (hV : Inv n x) (hn : n < 512) (hi : i + 4 ≤ L) (hL : L ≤ 2048) (hk : 10 ≤ kc) (hks : 3063 ≤ ks) (k : lwK X Q n a0 am b L q3 q4 i (kc - 10) (ks - 3063) xs) : gd 9 X Q 1076 [some (.ref b), some (.ref a0), some (.ref (am 0)), some (.ref q3), some (.ref q4), some (.int (nI i)), none, none, none] [] h kc ks := by
  subst h0
  exact case_13 hC hI (hV.w hn) (hV.v hn) hi hL (by omega) (by omega) (lx_h hV) (lx_h hV) (fun h1 ad1 z1 z2 => gd_le gle_rfl (by omega) (by omega) (k h1 _ ad1 (k_edit (xs (i + 1)) (xs (i + 2)) hV hn) z1 z2))
theorem st_14 {X : gX} {Q : gQ} (hC : gC M_L_law_c14.1 M_L_law_c14.2.1 M_L_law_c14.2.2.1 M_L_law_c14.2.2.2.1 M_L_law_c14.2.2.2.2.1 M_L_law_c14.2.2.2.2.2.1 M_L_law_c14.2.2.2.2.2.2 X) {n : Nat} {h : gH} {x : gS} {ad : Nat → Nat → Nat} {am : Nat → Nat} {a0 b L q3 q4 i kc ks : Nat} {xs : Nat → Int32} (hI : lawI h x ad am b L q3 q4 xs) (h0 : ad 0 0 = a0) (hV : Inv n x) (hn : n < 512) (hi : i + 4 ≤ L) (hL : L ≤ 2048) (hk : 10 ≤ kc) (hks : 3063 ≤ ks) (k : lwK X Q n a0 am b L q3 q4 i (kc - 10) (ks - 3063) xs) : gd 9 X Q 1144 [some (.ref b), some (.ref a0), some (.ref (am 0)), some (.ref q3), some (.ref q4), some (.int (nI i)), none, none, none] [] h kc ks := by
  subst h0
  exact case_14 hC hI (hV.w hn) (hV.v hn) hi hL (by omega) (by omega) (fun h1 ad1 z1 z2 => gd_le gle_rfl (by omega) (by omega) (k h1 _ ad1 (k_remove (xs (i + 1)) (xs (i + 2)) hV hn) z1 z2))
theorem st_15 {X : gX} {Q : gQ} (hC : gC M_L_law_c15.1 M_L_law_c15.2.1 M_L_law_c15.2.2.1 M_L_law_c15.2.2.2.1 M_L_law_c15.2.2.2.2.1 M_L_law_c15.2.2.2.2.2.1 M_L_law_c15.2.2.2.2.2.2 X) {n : Nat} {h : gH} {x : gS} {ad : Nat → Nat → Nat} {am : Nat → Nat} {a0 b L q3 q4 i kc ks : Nat} {xs : Nat → Int32} (hI : lawI h x ad am b L q3 q4 xs) (h0 : ad 0 0 = a0) (hV : Inv n x) (hn : n < 512) (hi : i + 4 ≤ L) (hL : L ≤ 2048) (hk : 10 ≤ kc) (hks : 3063 ≤ ks) (k : lwK X Q n a0 am b L q3 q4 i (kc - 10) (ks - 3063) xs) : gd 9 X Q 1212 [some (.ref b), some (.ref a0), some (.ref (am 0)), some (.ref q3), some (.ref q4), some (.int (nI i)), none, none, none] [] h kc ks := by
  subst h0
  exact case_15 hC hI (hV.w hn) (hV.v hn) hi hL (by omega) (by omega) (fun h1 ad1 z1 z2 => gd_le gle_rfl (by omega) (by omega) (k h1 _ ad1 (k_read (xs (i + 1)) (xs (i + 2)) hV hn) z1 z2))
theorem st_16 {X : gX} {Q : gQ} (hC : gC M_L_law_c16.1 M_L_law_c16.2.1 M_L_law_c16.2.2.1 M_L_law_c16.2.2.2.1 M_L_law_c16.2.2.2.2.1 M_L_law_c16.2.2.2.2.2.1 M_L_law_c16.2.2.2.2.2.2 X) {n : Nat} {h : gH} {x : gS} {ad : Nat → Nat → Nat} {am : Nat → Nat} {a0 b L q3 q4 i kc ks : Nat} {xs : Nat → Int32} (hI : lawI h x ad am b L q3 q4 xs) (h0 : ad 0 0 = a0) (hV : Inv n x) (hn : n < 512) (hi : i + 4 ≤ L) (hL : L ≤ 2048) (hk : 10 ≤ kc) (hks : 3063 ≤ ks) (k : lwK X Q n a0 am b L q3 q4 i (kc - 10) (ks - 3063) xs) : gd 9 X Q 1280 [some (.ref b), some (.ref a0), some (.ref (am 0)), some (.ref q3), some (.ref q4), some (.int (nI i)), none, none, none] [] h kc ks := by
  subst h0
  exact case_16 hC hI (hV.w hn) (hV.v hn) hi hL (by omega) (by omega) (fun k hk => Nat.lt_of_succ_le (rk_lt hV hn hk)) (fun h1 ad1 z1 z2 => gd_le gle_rfl (by omega) (by omega) (k h1 _ ad1 (k_readTo (xs (i + 1)) (xs (i + 2)) hV hn) z1 z2))
theorem st_17 {X : gX} {Q : gQ} (hC : gC M_L_law_c17.1 M_L_law_c17.2.1 M_L_law_c17.2.2.1 M_L_law_c17.2.2.2.1 M_L_law_c17.2.2.2.2.1 M_L_law_c17.2.2.2.2.2.1 M_L_law_c17.2.2.2.2.2.2 X) {n : Nat} {h : gH} {x : gS} {ad : Nat → Nat → Nat} {am : Nat → Nat} {a0 b L q3 q4 i kc ks : Nat} {xs : Nat → Int32} (hI : lawI h x ad am b L q3 q4 xs) (h0 : ad 0 0 = a0) (hV : Inv n x) (hn : n < 512) (hi : i + 4 ≤ L) (hL : L ≤ 2048) (hk : 10 ≤ kc) (hks : 3063 ≤ ks) (k : lwK X Q n a0 am b L q3 q4 i (kc - 10) (ks - 3063) xs) : gd 9 X Q 1348 [some (.ref b), some (.ref a0), some (.ref (am 0)), some (.ref q3), some (.ref q4), some (.int (nI i)), none, none, none] [] h kc ks := by
  subst h0
  exact case_17 hC hI (hV.w hn) (hV.v hn) hi hL (by omega) (by omega) (fun h1 ad1 z1 z2 => gd_le gle_rfl (by omega) (by omega) (k h1 _ ad1 (k_users hV hn) z1 z2))
theorem st_18 {X : gX} {Q : gQ} (hC : gC M_L_law_c18.1 M_L_law_c18.2.1 M_L_law_c18.2.2.1 M_L_law_c18.2.2.2.1 M_L_law_c18.2.2.2.2.1 M_L_law_c18.2.2.2.2.2.1 M_L_law_c18.2.2.2.2.2.2 X) {n : Nat} {h : gH} {x : gS} {ad : Nat → Nat → Nat} {am : Nat → Nat} {a0 b L q3 q4 i kc ks : Nat} {xs : Nat → Int32} (hI : lawI h x ad am b L q3 q4 xs) (h0 : ad 0 0 = a0) (hV : Inv n x) (hn : n < 512) (hi : i + 4 ≤ L) (hL : L ≤ 2048) (hk : 10 ≤ kc) (hks : 3063 ≤ ks) (k : lwK X Q n a0 am b L q3 q4 i (kc - 10) (ks - 3063) xs) : gd 9 X Q 1361 [some (.ref b), some (.ref a0), some (.ref (am 0)), some (.ref q3), some (.ref q4), some (.int (nI i)), none, none, none] [] h kc ks := by
  subst h0
  exact case_18 hC hI (hV.w hn) (hV.v hn) hi hL (by omega) (by omega) (fun h1 ad1 z1 z2 => gd_le gle_rfl (by omega) (by omega) (k h1 _ ad1 (k_rooms hV hn) z1 z2))
theorem st_19 {X : gX} {Q : gQ} (hC : gC M_L_law_c19.1 M_L_law_c19.2.1 M_L_law_c19.2.2.1 M_L_law_c19.2.2.2.1 M_L_law_c19.2.2.2.2.1 M_L_law_c19.2.2.2.2.2.1 M_L_law_c19.2.2.2.2.2.2 X) {n : Nat} {h : gH} {x : gS} {ad : Nat → Nat → Nat} {am : Nat → Nat} {a0 b L q3 q4 i kc ks : Nat} {xs : Nat → Int32} (hI : lawI h x ad am b L q3 q4 xs) (h0 : ad 0 0 = a0) (hV : Inv n x) (hn : n < 512) (hi : i + 4 ≤ L) (hL : L ≤ 2048) (hk : 10 ≤ kc) (hks : 3063 ≤ ks) (k : lwK X Q n a0 am b L q3 q4 i (kc - 10) (ks - 3063) xs) : gd 9 X Q 1374 [some (.ref b), some (.ref a0), some (.ref (am 0)), some (.ref q3), some (.ref q4), some (.int (nI i)), none, none, none] [] h kc ks := by
  subst h0
  exact case_19 hC hI (hV.w hn) (hV.v hn) hi hL (by omega) (by omega) (fun h1 ad1 z1 z2 => gd_le gle_rfl (by omega) (by omega) (k h1 _ ad1 (k_messages hV hn) z1 z2))
theorem st_20 {X : gX} {Q : gQ} (hC : gC M_L_law_c20.1 M_L_law_c20.2.1 M_L_law_c20.2.2.1 M_L_law_c20.2.2.2.1 M_L_law_c20.2.2.2.2.1 M_L_law_c20.2.2.2.2.2.1 M_L_law_c20.2.2.2.2.2.2 X) {n : Nat} {h : gH} {x : gS} {ad : Nat → Nat → Nat} {am : Nat → Nat} {a0 b L q3 q4 i kc ks : Nat} {xs : Nat → Int32} (hI : lawI h x ad am b L q3 q4 xs) (h0 : ad 0 0 = a0) (hV : Inv n x) (hn : n < 512) (hi : i + 4 ≤ L) (hL : L ≤ 2048) (hk : 10 ≤ kc) (hks : 3063 ≤ ks) (k : lwK X Q n a0 am b L q3 q4 i (kc - 10) (ks - 3063) xs) : gd 9 X Q 1387 [some (.ref b), some (.ref a0), some (.ref (am 0)), some (.ref q3), some (.ref q4), some (.int (nI i)), none, none, none] [] h kc ks := by
  subst h0
  exact case_20 hC hI (hV.w hn) (hV.v hn) hi hL (by omega) (by omega) (fun h1 ad1 z1 z2 => gd_le gle_rfl (by omega) (by omega) (k h1 _ ad1 (k_time hV hn) z1 z2))
theorem st_21 {X : gX} {Q : gQ} (hC : gC M_L_law_c21.1 M_L_law_c21.2.1 M_L_law_c21.2.2.1 M_L_law_c21.2.2.2.1 M_L_law_c21.2.2.2.2.1 M_L_law_c21.2.2.2.2.2.1 M_L_law_c21.2.2.2.2.2.2 X) {n : Nat} {h : gH} {x : gS} {ad : Nat → Nat → Nat} {am : Nat → Nat} {a0 b L q3 q4 i kc ks : Nat} {xs : Nat → Int32} (hI : lawI h x ad am b L q3 q4 xs) (h0 : ad 0 0 = a0) (hV : Inv n x) (hn : n < 512) (hi : i + 4 ≤ L) (hL : L ≤ 2048) (hk : 10 ≤ kc) (hks : 3063 ≤ ks) (k : lwK X Q n a0 am b L q3 q4 i (kc - 10) (ks - 3063) xs) : gd 9 X Q 1400 [some (.ref b), some (.ref a0), some (.ref (am 0)), some (.ref q3), some (.ref q4), some (.int (nI i)), none, none, none] [] h kc ks := by
  subst h0
  exact case_21 hC hI (hV.w hn) (hV.v hn) hi hL (by omega) (by omega) (fun h1 ad1 z1 z2 => gd_le gle_rfl (by omega) (by omega) (k h1 _ ad1 (k_presence (xs (i + 1)) hV hn) z1 z2))
theorem st_22 {X : gX} {Q : gQ} (hC : gC M_L_law_c22.1 M_L_law_c22.2.1 M_L_law_c22.2.2.1 M_L_law_c22.2.2.2.1 M_L_law_c22.2.2.2.2.1 M_L_law_c22.2.2.2.2.2.1 M_L_law_c22.2.2.2.2.2.2 X) {n : Nat} {h : gH} {x : gS} {ad : Nat → Nat → Nat} {am : Nat → Nat} {a0 b L q3 q4 i kc ks : Nat} {xs : Nat → Int32} (hI : lawI h x ad am b L q3 q4 xs) (h0 : ad 0 0 = a0) (hV : Inv n x) (hn : n < 512) (hi : i + 4 ≤ L) (hL : L ≤ 2048) (hk : 10 ≤ kc) (hks : 3063 ≤ ks) (k : lwK X Q n a0 am b L q3 q4 i (kc - 10) (ks - 3063) xs) : gd 9 X Q 1456 [some (.ref b), some (.ref a0), some (.ref (am 0)), some (.ref q3), some (.ref q4), some (.int (nI i)), none, none, none] [] h kc ks := by
  subst h0
  exact case_22 hC hI (hV.w hn) (hV.v hn) hi hL (by omega) (by omega) (fun w e => (lx_td hV w e).1) (lx_td hV) (fun h1 ad1 z1 z2 => gd_le gle_rfl (by omega) (by omega) (k h1 _ ad1 (k_tokens (xs (i + 1)) hV hn) z1 z2))
theorem st_23 {X : gX} {Q : gQ} (hC : gC M_L_law_c23.1 M_L_law_c23.2.1 M_L_law_c23.2.2.1 M_L_law_c23.2.2.2.1 M_L_law_c23.2.2.2.2.1 M_L_law_c23.2.2.2.2.2.1 M_L_law_c23.2.2.2.2.2.2 X) {n : Nat} {h : gH} {x : gS} {ad : Nat → Nat → Nat} {am : Nat → Nat} {a0 b L q3 q4 i kc ks : Nat} {xs : Nat → Int32} (hI : lawI h x ad am b L q3 q4 xs) (h0 : ad 0 0 = a0) (hV : Inv n x) (hn : n < 512) (hi : i + 4 ≤ L) (hL : L ≤ 2048) (hk : 10 ≤ kc) (hks : 3063 ≤ ks) (k : lwK X Q n a0 am b L q3 q4 i (kc - 10) (ks - 3063) xs) : gd 9 X Q 1534 [some (.ref b), some (.ref a0), some (.ref (am 0)), some (.ref q3), some (.ref q4), some (.int (nI i)), none, none, none] [] h kc ks := by
  subst h0
  exact case_23 hC hI (hV.w hn) (hV.v hn) hi hL (by omega) (by omega) lx_b (lx_be hV) (fun h1 ad1 z1 z2 => gd_le gle_rfl (by omega) (by omega) (k h1 _ ad1 (k_tokenBits (xs (i + 1)) hV hn) z1 z2))
theorem st_24 {X : gX} {Q : gQ} (hC : gC M_L_law_c24.1 M_L_law_c24.2.1 M_L_law_c24.2.2.1 M_L_law_c24.2.2.2.1 M_L_law_c24.2.2.2.2.1 M_L_law_c24.2.2.2.2.2.1 M_L_law_c24.2.2.2.2.2.2 X) {n : Nat} {h : gH} {x : gS} {ad : Nat → Nat → Nat} {am : Nat → Nat} {a0 b L q3 q4 i kc ks : Nat} {xs : Nat → Int32} (hI : lawI h x ad am b L q3 q4 xs) (h0 : ad 0 0 = a0) (hV : Inv n x) (hn : n < 512) (hi : i + 4 ≤ L) (hL : L ≤ 2048) (hk : 10 ≤ kc) (hks : 3063 ≤ ks) (k : lwK X Q n a0 am b L q3 q4 i (kc - 10) (ks - 3063) xs) : gd 9 X Q 1590 [some (.ref b), some (.ref a0), some (.ref (am 0)), some (.ref q3), some (.ref q4), some (.int (nI i)), none, none, none] [] h kc ks := by
  subst h0
  exact case_24 hC hI (hV.w hn) (hV.v hn) hi hL (by omega) (by omega) (fun h1 ad1 z1 z2 => gd_le gle_rfl (by omega) (by omega) (k h1 _ ad1 (k_draftLength (xs (i + 1)) hV hn) z1 z2))
theorem st_25 {X : gX} {Q : gQ} (hC : gC M_L_law_c25.1 M_L_law_c25.2.1 M_L_law_c25.2.2.1 M_L_law_c25.2.2.2.1 M_L_law_c25.2.2.2.2.1 M_L_law_c25.2.2.2.2.2.1 M_L_law_c25.2.2.2.2.2.2 X) {n : Nat} {h : gH} {x : gS} {ad : Nat → Nat → Nat} {am : Nat → Nat} {a0 b L q3 q4 i kc ks : Nat} {xs : Nat → Int32} (hI : lawI h x ad am b L q3 q4 xs) (h0 : ad 0 0 = a0) (hV : Inv n x) (hn : n < 512) (hi : i + 4 ≤ L) (hL : L ≤ 2048) (hk : 10 ≤ kc) (hks : 3063 ≤ ks) (k : lwK X Q n a0 am b L q3 q4 i (kc - 10) (ks - 3063) xs) : gd 9 X Q 1646 [some (.ref b), some (.ref a0), some (.ref (am 0)), some (.ref q3), some (.ref q4), some (.int (nI i)), none, none, none] [] h kc ks := by
  subst h0
  exact case_25 hC hI (hV.w hn) (hV.v hn) hi hL (by omega) (by omega) (fun h1 ad1 z1 z2 => gd_le gle_rfl (by omega) (by omega) (k h1 _ ad1 (k_draftAt (xs (i + 1)) (xs (i + 2)) hV hn) z1 z2))
theorem st_26 {X : gX} {Q : gQ} (hC : gC M_L_law_c26.1 M_L_law_c26.2.1 M_L_law_c26.2.2.1 M_L_law_c26.2.2.2.1 M_L_law_c26.2.2.2.2.1 M_L_law_c26.2.2.2.2.2.1 M_L_law_c26.2.2.2.2.2.2 X) {n : Nat} {h : gH} {x : gS} {ad : Nat → Nat → Nat} {am : Nat → Nat} {a0 b L q3 q4 i kc ks : Nat} {xs : Nat → Int32} (hI : lawI h x ad am b L q3 q4 xs) (h0 : ad 0 0 = a0) (hV : Inv n x) (hn : n < 512) (hi : i + 4 ≤ L) (hL : L ≤ 2048) (hk : 10 ≤ kc) (hks : 3063 ≤ ks) (k : lwK X Q n a0 am b L q3 q4 i (kc - 10) (ks - 3063) xs) : gd 9 X Q 1714 [some (.ref b), some (.ref a0), some (.ref (am 0)), some (.ref q3), some (.ref q4), some (.int (nI i)), none, none, none] [] h kc ks := by
  subst h0
  exact case_26 hC hI (hV.w hn) (hV.v hn) hi hL (by omega) (by omega) (fun h1 ad1 z1 z2 => gd_le gle_rfl (by omega) (by omega) (k h1 _ ad1 (k_members (xs (i + 1)) hV hn) z1 z2))
theorem st_27 {X : gX} {Q : gQ} (hC : gC M_L_law_c27.1 M_L_law_c27.2.1 M_L_law_c27.2.2.1 M_L_law_c27.2.2.2.1 M_L_law_c27.2.2.2.2.1 M_L_law_c27.2.2.2.2.2.1 M_L_law_c27.2.2.2.2.2.2 X) {n : Nat} {h : gH} {x : gS} {ad : Nat → Nat → Nat} {am : Nat → Nat} {a0 b L q3 q4 i kc ks : Nat} {xs : Nat → Int32} (hI : lawI h x ad am b L q3 q4 xs) (h0 : ad 0 0 = a0) (hV : Inv n x) (hn : n < 512) (hi : i + 4 ≤ L) (hL : L ≤ 2048) (hk : 10 ≤ kc) (hks : 3063 ≤ ks) (k : lwK X Q n a0 am b L q3 q4 i (kc - 10) (ks - 3063) xs) : gd 9 X Q 1770 [some (.ref b), some (.ref a0), some (.ref (am 0)), some (.ref q3), some (.ref q4), some (.int (nI i)), none, none, none] [] h kc ks := by
  subst h0
  exact case_27 hC hI (hV.w hn) (hV.v hn) hi hL (by omega) (by omega) (fun h1 ad1 z1 z2 => gd_le gle_rfl (by omega) (by omega) (k h1 _ ad1 (k_memberAt (xs (i + 1)) (xs (i + 2)) hV hn) z1 z2))
theorem st_28 {X : gX} {Q : gQ} (hC : gC M_L_law_c28.1 M_L_law_c28.2.1 M_L_law_c28.2.2.1 M_L_law_c28.2.2.2.1 M_L_law_c28.2.2.2.2.1 M_L_law_c28.2.2.2.2.2.1 M_L_law_c28.2.2.2.2.2.2 X) {n : Nat} {h : gH} {x : gS} {ad : Nat → Nat → Nat} {am : Nat → Nat} {a0 b L q3 q4 i kc ks : Nat} {xs : Nat → Int32} (hI : lawI h x ad am b L q3 q4 xs) (h0 : ad 0 0 = a0) (hV : Inv n x) (hn : n < 512) (hi : i + 4 ≤ L) (hL : L ≤ 2048) (hk : 10 ≤ kc) (hks : 3063 ≤ ks) (k : lwK X Q n a0 am b L q3 q4 i (kc - 10) (ks - 3063) xs) : gd 9 X Q 1838 [some (.ref b), some (.ref a0), some (.ref (am 0)), some (.ref q3), some (.ref q4), some (.int (nI i)), none, none, none] [] h kc ks := by
  subst h0
  exact case_28 hC hI (hV.w hn) (hV.v hn) hi hL (by omega) (by omega) (fun h1 ad1 z1 z2 => gd_le gle_rfl (by omega) (by omega) (k h1 _ ad1 (k_present (xs (i + 1)) hV hn) z1 z2))
theorem st_29 {X : gX} {Q : gQ} (hC : gC M_L_law_c29.1 M_L_law_c29.2.1 M_L_law_c29.2.2.1 M_L_law_c29.2.2.2.1 M_L_law_c29.2.2.2.2.1 M_L_law_c29.2.2.2.2.2.1 M_L_law_c29.2.2.2.2.2.2 X) {n : Nat} {h : gH} {x : gS} {ad : Nat → Nat → Nat} {am : Nat → Nat} {a0 b L q3 q4 i kc ks : Nat} {xs : Nat → Int32} (hI : lawI h x ad am b L q3 q4 xs) (h0 : ad 0 0 = a0) (hV : Inv n x) (hn : n < 512) (hi : i + 4 ≤ L) (hL : L ≤ 2048) (hk : 10 ≤ kc) (hks : 3063 ≤ ks) (k : lwK X Q n a0 am b L q3 q4 i (kc - 10) (ks - 3063) xs) : gd 9 X Q 1894 [some (.ref b), some (.ref a0), some (.ref (am 0)), some (.ref q3), some (.ref q4), some (.int (nI i)), none, none, none] [] h kc ks := by
  subst h0
  exact case_29 hC hI (hV.w hn) (hV.v hn) hi hL (by omega) (by omega) (fun h1 ad1 z1 z2 => gd_le gle_rfl (by omega) (by omega) (k h1 _ ad1 (k_owner (xs (i + 1)) hV hn) z1 z2))
theorem st_30 {X : gX} {Q : gQ} (hC : gC M_L_law_c30.1 M_L_law_c30.2.1 M_L_law_c30.2.2.1 M_L_law_c30.2.2.2.1 M_L_law_c30.2.2.2.2.1 M_L_law_c30.2.2.2.2.2.1 M_L_law_c30.2.2.2.2.2.2 X) {n : Nat} {h : gH} {x : gS} {ad : Nat → Nat → Nat} {am : Nat → Nat} {a0 b L q3 q4 i kc ks : Nat} {xs : Nat → Int32} (hI : lawI h x ad am b L q3 q4 xs) (h0 : ad 0 0 = a0) (hV : Inv n x) (hn : n < 512) (hi : i + 4 ≤ L) (hL : L ≤ 2048) (hk : 10 ≤ kc) (hks : 3063 ≤ ks) (k : lwK X Q n a0 am b L q3 q4 i (kc - 10) (ks - 3063) xs) : gd 9 X Q 1950 [some (.ref b), some (.ref a0), some (.ref (am 0)), some (.ref q3), some (.ref q4), some (.int (nI i)), none, none, none] [] h kc ks := by
  subst h0
  exact case_30 hC hI (hV.w hn) (hV.v hn) hi hL (by omega) (by omega) (fun h1 ad1 z1 z2 => gd_le gle_rfl (by omega) (by omega) (k h1 _ ad1 (k_countOf (xs (i + 1)) hV hn) z1 z2))
theorem st_31 {X : gX} {Q : gQ} (hC : gC M_L_law_c31.1 M_L_law_c31.2.1 M_L_law_c31.2.2.1 M_L_law_c31.2.2.2.1 M_L_law_c31.2.2.2.2.1 M_L_law_c31.2.2.2.2.2.1 M_L_law_c31.2.2.2.2.2.2 X) {n : Nat} {h : gH} {x : gS} {ad : Nat → Nat → Nat} {am : Nat → Nat} {a0 b L q3 q4 i kc ks : Nat} {xs : Nat → Int32} (hI : lawI h x ad am b L q3 q4 xs) (h0 : ad 0 0 = a0) (hV : Inv n x) (hn : n < 512) (hi : i + 4 ≤ L) (hL : L ≤ 2048) (hk : 10 ≤ kc) (hks : 3063 ≤ ks) (k : lwK X Q n a0 am b L q3 q4 i (kc - 10) (ks - 3063) xs) : gd 9 X Q 2006 [some (.ref b), some (.ref a0), some (.ref (am 0)), some (.ref q3), some (.ref q4), some (.int (nI i)), none, none, none] [] h kc ks := by
  subst h0
  exact case_31 hC hI (hV.w hn) (hV.v hn) hi hL (by omega) (by omega) (fun h1 ad1 z1 z2 => gd_le gle_rfl (by omega) (by omega) (k h1 _ ad1 (k_messageAt (xs (i + 1)) (xs (i + 2)) hV hn) z1 z2))
theorem st_32 {X : gX} {Q : gQ} (hC : gC M_L_law_c32.1 M_L_law_c32.2.1 M_L_law_c32.2.2.1 M_L_law_c32.2.2.2.1 M_L_law_c32.2.2.2.2.1 M_L_law_c32.2.2.2.2.2.1 M_L_law_c32.2.2.2.2.2.2 X) {n : Nat} {h : gH} {x : gS} {ad : Nat → Nat → Nat} {am : Nat → Nat} {a0 b L q3 q4 i kc ks : Nat} {xs : Nat → Int32} (hI : lawI h x ad am b L q3 q4 xs) (h0 : ad 0 0 = a0) (hV : Inv n x) (hn : n < 512) (hi : i + 4 ≤ L) (hL : L ≤ 2048) (hk : 10 ≤ kc) (hks : 3063 ≤ ks) (k : lwK X Q n a0 am b L q3 q4 i (kc - 10) (ks - 3063) xs) : gd 9 X Q 2074 [some (.ref b), some (.ref a0), some (.ref (am 0)), some (.ref q3), some (.ref q4), some (.int (nI i)), none, none, none] [] h kc ks := by
  subst h0
  exact case_32 hC hI (hV.w hn) (hV.v hn) hi hL (by omega) (by omega) (fun h1 ad1 z1 z2 => gd_le gle_rfl (by omega) (by omega) (k h1 _ ad1 (k_rankOf (xs (i + 1)) hV hn) z1 z2))
theorem st_33 {X : gX} {Q : gQ} (hC : gC M_L_law_c33.1 M_L_law_c33.2.1 M_L_law_c33.2.2.1 M_L_law_c33.2.2.2.1 M_L_law_c33.2.2.2.2.1 M_L_law_c33.2.2.2.2.2.1 M_L_law_c33.2.2.2.2.2.2 X) {n : Nat} {h : gH} {x : gS} {ad : Nat → Nat → Nat} {am : Nat → Nat} {a0 b L q3 q4 i kc ks : Nat} {xs : Nat → Int32} (hI : lawI h x ad am b L q3 q4 xs) (h0 : ad 0 0 = a0) (hV : Inv n x) (hn : n < 512) (hi : i + 4 ≤ L) (hL : L ≤ 2048) (hk : 10 ≤ kc) (hks : 3063 ≤ ks) (k : lwK X Q n a0 am b L q3 q4 i (kc - 10) (ks - 3063) xs) : gd 9 X Q 2130 [some (.ref b), some (.ref a0), some (.ref (am 0)), some (.ref q3), some (.ref q4), some (.int (nI i)), none, none, none] [] h kc ks := by
  subst h0
  exact case_33 hC hI (hV.w hn) (hV.v hn) hi hL (by omega) (by omega) (fun h1 ad1 z1 z2 => gd_le gle_rfl (by omega) (by omega) (k h1 _ ad1 (k_author (xs (i + 1)) hV hn) z1 z2))
theorem st_34 {X : gX} {Q : gQ} (hC : gC M_L_law_c34.1 M_L_law_c34.2.1 M_L_law_c34.2.2.1 M_L_law_c34.2.2.2.1 M_L_law_c34.2.2.2.2.1 M_L_law_c34.2.2.2.2.2.1 M_L_law_c34.2.2.2.2.2.2 X) {n : Nat} {h : gH} {x : gS} {ad : Nat → Nat → Nat} {am : Nat → Nat} {a0 b L q3 q4 i kc ks : Nat} {xs : Nat → Int32} (hI : lawI h x ad am b L q3 q4 xs) (h0 : ad 0 0 = a0) (hV : Inv n x) (hn : n < 512) (hi : i + 4 ≤ L) (hL : L ≤ 2048) (hk : 10 ≤ kc) (hks : 3063 ≤ ks) (k : lwK X Q n a0 am b L q3 q4 i (kc - 10) (ks - 3063) xs) : gd 9 X Q 2186 [some (.ref b), some (.ref a0), some (.ref (am 0)), some (.ref q3), some (.ref q4), some (.int (nI i)), none, none, none] [] h kc ks := by
  subst h0
  exact case_34 hC hI (hV.w hn) (hV.v hn) hi hL (by omega) (by omega) (fun h1 ad1 z1 z2 => gd_le gle_rfl (by omega) (by omega) (k h1 _ ad1 (k_roomOf (xs (i + 1)) hV hn) z1 z2))
theorem st_35 {X : gX} {Q : gQ} (hC : gC M_L_law_c35.1 M_L_law_c35.2.1 M_L_law_c35.2.2.1 M_L_law_c35.2.2.2.1 M_L_law_c35.2.2.2.2.1 M_L_law_c35.2.2.2.2.2.1 M_L_law_c35.2.2.2.2.2.2 X) {n : Nat} {h : gH} {x : gS} {ad : Nat → Nat → Nat} {am : Nat → Nat} {a0 b L q3 q4 i kc ks : Nat} {xs : Nat → Int32} (hI : lawI h x ad am b L q3 q4 xs) (h0 : ad 0 0 = a0) (hV : Inv n x) (hn : n < 512) (hi : i + 4 ≤ L) (hL : L ≤ 2048) (hk : 10 ≤ kc) (hks : 3063 ≤ ks) (k : lwK X Q n a0 am b L q3 q4 i (kc - 10) (ks - 3063) xs) : gd 9 X Q 2242 [some (.ref b), some (.ref a0), some (.ref (am 0)), some (.ref q3), some (.ref q4), some (.int (nI i)), none, none, none] [] h kc ks := by
  subst h0
  exact case_35 hC hI (hV.w hn) (hV.v hn) hi hL (by omega) (by omega) (fun h1 ad1 z1 z2 => gd_le gle_rfl (by omega) (by omega) (k h1 _ ad1 (k_length (xs (i + 1)) hV hn) z1 z2))
theorem st_36 {X : gX} {Q : gQ} (hC : gC M_L_law_c36.1 M_L_law_c36.2.1 M_L_law_c36.2.2.1 M_L_law_c36.2.2.2.1 M_L_law_c36.2.2.2.2.1 M_L_law_c36.2.2.2.2.2.1 M_L_law_c36.2.2.2.2.2.2 X) {n : Nat} {h : gH} {x : gS} {ad : Nat → Nat → Nat} {am : Nat → Nat} {a0 b L q3 q4 i kc ks : Nat} {xs : Nat → Int32} (hI : lawI h x ad am b L q3 q4 xs) (h0 : ad 0 0 = a0) (hV : Inv n x) (hn : n < 512) (hi : i + 4 ≤ L) (hL : L ≤ 2048) (hk : 10 ≤ kc) (hks : 3063 ≤ ks) (k : lwK X Q n a0 am b L q3 q4 i (kc - 10) (ks - 3063) xs) : gd 9 X Q 2298 [some (.ref b), some (.ref a0), some (.ref (am 0)), some (.ref q3), some (.ref q4), some (.int (nI i)), none, none, none] [] h kc ks := by
  subst h0
  exact case_36 hC hI (hV.w hn) (hV.v hn) hi hL (by omega) (by omega) (fun h1 ad1 z1 z2 => gd_le gle_rfl (by omega) (by omega) (k h1 _ ad1 (k_charAt (xs (i + 1)) (xs (i + 2)) hV hn) z1 z2))
theorem st_37 {X : gX} {Q : gQ} (hC : gC M_L_law_c37.1 M_L_law_c37.2.1 M_L_law_c37.2.2.1 M_L_law_c37.2.2.2.1 M_L_law_c37.2.2.2.2.1 M_L_law_c37.2.2.2.2.2.1 M_L_law_c37.2.2.2.2.2.2 X) {n : Nat} {h : gH} {x : gS} {ad : Nat → Nat → Nat} {am : Nat → Nat} {a0 b L q3 q4 i kc ks : Nat} {xs : Nat → Int32} (hI : lawI h x ad am b L q3 q4 xs) (h0 : ad 0 0 = a0) (hV : Inv n x) (hn : n < 512) (hi : i + 4 ≤ L) (hL : L ≤ 2048) (hk : 10 ≤ kc) (hks : 3063 ≤ ks) (k : lwK X Q n a0 am b L q3 q4 i (kc - 10) (ks - 3063) xs) : gd 9 X Q 2366 [some (.ref b), some (.ref a0), some (.ref (am 0)), some (.ref q3), some (.ref q4), some (.int (nI i)), none, none, none] [] h kc ks := by
  subst h0
  exact case_37 hC hI (hV.w hn) (hV.v hn) hi hL (by omega) (by omega) (fun h1 ad1 z1 z2 => gd_le gle_rfl (by omega) (by omega) (k h1 _ ad1 (k_edits (xs (i + 1)) hV hn) z1 z2))
theorem st_38 {X : gX} {Q : gQ} (hC : gC M_L_law_c38.1 M_L_law_c38.2.1 M_L_law_c38.2.2.1 M_L_law_c38.2.2.2.1 M_L_law_c38.2.2.2.2.1 M_L_law_c38.2.2.2.2.2.1 M_L_law_c38.2.2.2.2.2.2 X) {n : Nat} {h : gH} {x : gS} {ad : Nat → Nat → Nat} {am : Nat → Nat} {a0 b L q3 q4 i kc ks : Nat} {xs : Nat → Int32} (hI : lawI h x ad am b L q3 q4 xs) (h0 : ad 0 0 = a0) (hV : Inv n x) (hn : n < 512) (hi : i + 4 ≤ L) (hL : L ≤ 2048) (hk : 10 ≤ kc) (hks : 3063 ≤ ks) (k : lwK X Q n a0 am b L q3 q4 i (kc - 10) (ks - 3063) xs) : gd 9 X Q 2422 [some (.ref b), some (.ref a0), some (.ref (am 0)), some (.ref q3), some (.ref q4), some (.int (nI i)), none, none, none] [] h kc ks := by
  subst h0
  exact case_38 hC hI (hV.w hn) (hV.v hn) hi hL (by omega) (by omega) (fun h1 ad1 z1 z2 => gd_le gle_rfl (by omega) (by omega) (k h1 _ ad1 (k_isRemoved (xs (i + 1)) hV hn) z1 z2))
theorem st_39 {X : gX} {Q : gQ} (hC : gC M_L_law_c39.1 M_L_law_c39.2.1 M_L_law_c39.2.2.1 M_L_law_c39.2.2.2.1 M_L_law_c39.2.2.2.2.1 M_L_law_c39.2.2.2.2.2.1 M_L_law_c39.2.2.2.2.2.2 X) {n : Nat} {h : gH} {x : gS} {ad : Nat → Nat → Nat} {am : Nat → Nat} {a0 b L q3 q4 i kc ks : Nat} {xs : Nat → Int32} (hI : lawI h x ad am b L q3 q4 xs) (h0 : ad 0 0 = a0) (hV : Inv n x) (hn : n < 512) (hi : i + 4 ≤ L) (hL : L ≤ 2048) (hk : 10 ≤ kc) (hks : 3063 ≤ ks) (k : lwK X Q n a0 am b L q3 q4 i (kc - 10) (ks - 3063) xs) : gd 9 X Q 2485 [some (.ref b), some (.ref a0), some (.ref (am 0)), some (.ref q3), some (.ref q4), some (.int (nI i)), none, none, none] [] h kc ks := by
  subst h0
  exact case_39 hC hI (hV.w hn) (hV.v hn) hi hL (by omega) (by omega) (fun h1 ad1 z1 z2 => gd_le gle_rfl (by omega) (by omega) (k h1 _ ad1 (k_parent (xs (i + 1)) hV hn) z1 z2))
theorem st_40 {X : gX} {Q : gQ} (hC : gC M_L_law_c40.1 M_L_law_c40.2.1 M_L_law_c40.2.2.1 M_L_law_c40.2.2.2.1 M_L_law_c40.2.2.2.2.1 M_L_law_c40.2.2.2.2.2.1 M_L_law_c40.2.2.2.2.2.2 X) {n : Nat} {h : gH} {x : gS} {ad : Nat → Nat → Nat} {am : Nat → Nat} {a0 b L q3 q4 i kc ks : Nat} {xs : Nat → Int32} (hI : lawI h x ad am b L q3 q4 xs) (h0 : ad 0 0 = a0) (hV : Inv n x) (hn : n < 512) (hi : i + 4 ≤ L) (hL : L ≤ 2048) (hk : 10 ≤ kc) (hks : 3063 ≤ ks) (k : lwK X Q n a0 am b L q3 q4 i (kc - 10) (ks - 3063) xs) : gd 9 X Q 2541 [some (.ref b), some (.ref a0), some (.ref (am 0)), some (.ref q3), some (.ref q4), some (.int (nI i)), none, none, none] [] h kc ks := by
  subst h0
  exact case_40 hC hI (hV.w hn) (hV.v hn) hi hL (by omega) (by omega) (fun h1 ad1 z1 z2 => gd_le gle_rfl (by omega) (by omega) (k h1 _ ad1 (k_depth (xs (i + 1)) hV hn) z1 z2))
theorem st_41 {X : gX} {Q : gQ} (hC : gC M_L_law_c41.1 M_L_law_c41.2.1 M_L_law_c41.2.2.1 M_L_law_c41.2.2.2.1 M_L_law_c41.2.2.2.2.1 M_L_law_c41.2.2.2.2.2.1 M_L_law_c41.2.2.2.2.2.2 X) {n : Nat} {h : gH} {x : gS} {ad : Nat → Nat → Nat} {am : Nat → Nat} {a0 b L q3 q4 i kc ks : Nat} {xs : Nat → Int32} (hI : lawI h x ad am b L q3 q4 xs) (h0 : ad 0 0 = a0) (hV : Inv n x) (hn : n < 512) (hi : i + 4 ≤ L) (hL : L ≤ 2048) (hk : 10 ≤ kc) (hks : 3063 ≤ ks) (k : lwK X Q n a0 am b L q3 q4 i (kc - 10) (ks - 3063) xs) : gd 9 X Q 2597 [some (.ref b), some (.ref a0), some (.ref (am 0)), some (.ref q3), some (.ref q4), some (.int (nI i)), none, none, none] [] h kc ks := by
  subst h0
  exact case_41 hC hI (hV.w hn) (hV.v hn) hi hL (by omega) (by omega) (fun h1 ad1 z1 z2 => gd_le gle_rfl (by omega) (by omega) (k h1 _ ad1 (k_threadSize (xs (i + 1)) hV hn) z1 z2))
theorem st_42 {X : gX} {Q : gQ} (hC : gC M_L_law_c42.1 M_L_law_c42.2.1 M_L_law_c42.2.2.1 M_L_law_c42.2.2.2.1 M_L_law_c42.2.2.2.2.1 M_L_law_c42.2.2.2.2.2.1 M_L_law_c42.2.2.2.2.2.2 X) {n : Nat} {h : gH} {x : gS} {ad : Nat → Nat → Nat} {am : Nat → Nat} {a0 b L q3 q4 i kc ks : Nat} {xs : Nat → Int32} (hI : lawI h x ad am b L q3 q4 xs) (h0 : ad 0 0 = a0) (hV : Inv n x) (hn : n < 512) (hi : i + 4 ≤ L) (hL : L ≤ 2048) (hk : 10 ≤ kc) (hks : 3063 ≤ ks) (k : lwK X Q n a0 am b L q3 q4 i (kc - 10) (ks - 3063) xs) : gd 9 X Q 2653 [some (.ref b), some (.ref a0), some (.ref (am 0)), some (.ref q3), some (.ref q4), some (.int (nI i)), none, none, none] [] h kc ks := by
  subst h0
  exact case_42 hC hI (hV.w hn) (hV.v hn) hi hL (by omega) (by omega) lx_fit (fun h1 ad1 z1 z2 => gd_le gle_rfl (by omega) (by omega) (k h1 _ ad1 (k_threadAt (xs (i + 1)) (xs (i + 2)) hV hn) z1 z2))
theorem st_43 {X : gX} {Q : gQ} (hC : gC M_L_law_c43.1 M_L_law_c43.2.1 M_L_law_c43.2.2.1 M_L_law_c43.2.2.2.1 M_L_law_c43.2.2.2.2.1 M_L_law_c43.2.2.2.2.2.1 M_L_law_c43.2.2.2.2.2.2 X) {n : Nat} {h : gH} {x : gS} {ad : Nat → Nat → Nat} {am : Nat → Nat} {a0 b L q3 q4 i kc ks : Nat} {xs : Nat → Int32} (hI : lawI h x ad am b L q3 q4 xs) (h0 : ad 0 0 = a0) (hV : Inv n x) (hn : n < 512) (hi : i + 4 ≤ L) (hL : L ≤ 2048) (hk : 10 ≤ kc) (hks : 3063 ≤ ks) (k : lwK X Q n a0 am b L q3 q4 i (kc - 10) (ks - 3063) xs) : gd 9 X Q 2721 [some (.ref b), some (.ref a0), some (.ref (am 0)), some (.ref q3), some (.ref q4), some (.int (nI i)), none, none, none] [] h kc ks := by
  subst h0
  exact case_43 hC hI (hV.w hn) (hV.v hn) hi hL (by omega) (by omega) (fun h1 ad1 z1 z2 => gd_le gle_rfl (by omega) (by omega) (k h1 _ ad1 (k_mentions (xs (i + 1)) (xs (i + 2)) hV hn) z1 z2))
theorem st_44 {X : gX} {Q : gQ} (hC : gC M_L_law_c44.1 M_L_law_c44.2.1 M_L_law_c44.2.2.1 M_L_law_c44.2.2.2.1 M_L_law_c44.2.2.2.2.1 M_L_law_c44.2.2.2.2.2.1 M_L_law_c44.2.2.2.2.2.2 X) {n : Nat} {h : gH} {x : gS} {ad : Nat → Nat → Nat} {am : Nat → Nat} {a0 b L q3 q4 i kc ks : Nat} {xs : Nat → Int32} (hI : lawI h x ad am b L q3 q4 xs) (h0 : ad 0 0 = a0) (hV : Inv n x) (hn : n < 512) (hi : i + 4 ≤ L) (hL : L ≤ 2048) (hk : 10 ≤ kc) (hks : 3063 ≤ ks) (k : lwK X Q n a0 am b L q3 q4 i (kc - 10) (ks - 3063) xs) : gd 9 X Q 2796 [some (.ref b), some (.ref a0), some (.ref (am 0)), some (.ref q3), some (.ref q4), some (.int (nI i)), none, none, none] [] h kc ks := by
  subst h0
  exact case_44 hC hI (hV.w hn) (hV.v hn) hi hL (by omega) (by omega) (fun h1 ad1 z1 z2 => gd_le gle_rfl (by omega) (by omega) (k h1 _ ad1 (k_unread (xs (i + 1)) (xs (i + 2)) false hV hn) z1 z2))
theorem st_45 {X : gX} {Q : gQ} (hC : gC M_L_law_c45.1 M_L_law_c45.2.1 M_L_law_c45.2.2.1 M_L_law_c45.2.2.2.1 M_L_law_c45.2.2.2.2.1 M_L_law_c45.2.2.2.2.2.1 M_L_law_c45.2.2.2.2.2.2 X) {n : Nat} {h : gH} {x : gS} {ad : Nat → Nat → Nat} {am : Nat → Nat} {a0 b L q3 q4 i kc ks : Nat} {xs : Nat → Int32} (hI : lawI h x ad am b L q3 q4 xs) (h0 : ad 0 0 = a0) (hV : Inv n x) (hn : n < 512) (hi : i + 4 ≤ L) (hL : L ≤ 2048) (hk : 10 ≤ kc) (hks : 3063 ≤ ks) (k : lwK X Q n a0 am b L q3 q4 i (kc - 10) (ks - 3063) xs) : gd 9 X Q 2864 [some (.ref b), some (.ref a0), some (.ref (am 0)), some (.ref q3), some (.ref q4), some (.int (nI i)), none, none, none] [] h kc ks := by
  subst h0
  exact case_45 hC hI (hV.w hn) (hV.v hn) hi hL (by omega) (by omega) (lx_un hV) (fun h1 ad1 z1 z2 => gd_le gle_rfl (by omega) (by omega) (k h1 _ ad1 (k_unread (xs (i + 1)) (xs (i + 2)) false hV hn) z1 z2))
theorem st_46 {X : gX} {Q : gQ} (hC : gC M_L_law_c46.1 M_L_law_c46.2.1 M_L_law_c46.2.2.1 M_L_law_c46.2.2.2.1 M_L_law_c46.2.2.2.2.1 M_L_law_c46.2.2.2.2.2.1 M_L_law_c46.2.2.2.2.2.2 X) {n : Nat} {h : gH} {x : gS} {ad : Nat → Nat → Nat} {am : Nat → Nat} {a0 b L q3 q4 i kc ks : Nat} {xs : Nat → Int32} (hI : lawI h x ad am b L q3 q4 xs) (h0 : ad 0 0 = a0) (hV : Inv n x) (hn : n < 512) (hi : i + 4 ≤ L) (hL : L ≤ 2048) (hk : 10 ≤ kc) (hks : 3063 ≤ ks) (k : lwK X Q n a0 am b L q3 q4 i (kc - 10) (ks - 3063) xs) : gd 9 X Q 2932 [some (.ref b), some (.ref a0), some (.ref (am 0)), some (.ref q3), some (.ref q4), some (.int (nI i)), none, none, none] [] h kc ks := by
  subst h0
  exact case_46 hC hI (hV.w hn) (hV.v hn) hi hL (by omega) (by omega) (fun h1 ad1 z1 z2 => gd_le gle_rfl (by omega) (by omega) (k h1 _ ad1 (k_unread (xs (i + 1)) (xs (i + 2)) true hV hn) z1 z2))
theorem st_47 {X : gX} {Q : gQ} (hC : gC M_L_law_c47.1 M_L_law_c47.2.1 M_L_law_c47.2.2.1 M_L_law_c47.2.2.2.1 M_L_law_c47.2.2.2.2.1 M_L_law_c47.2.2.2.2.2.1 M_L_law_c47.2.2.2.2.2.2 X) {n : Nat} {h : gH} {x : gS} {ad : Nat → Nat → Nat} {am : Nat → Nat} {a0 b L q3 q4 i kc ks : Nat} {xs : Nat → Int32} (hI : lawI h x ad am b L q3 q4 xs) (h0 : ad 0 0 = a0) (hV : Inv n x) (hn : n < 512) (hi : i + 4 ≤ L) (hL : L ≤ 2048) (hk : 10 ≤ kc) (hks : 3063 ≤ ks) (k : lwK X Q n a0 am b L q3 q4 i (kc - 10) (ks - 3063) xs) : gd 9 X Q 3000 [some (.ref b), some (.ref a0), some (.ref (am 0)), some (.ref q3), some (.ref q4), some (.int (nI i)), none, none, none] [] h kc ks := by
  subst h0
  exact case_47 hC hI (hV.w hn) (hV.v hn) hi hL (by omega) (by omega) (lx_un hV) (fun h1 ad1 z1 z2 => gd_le gle_rfl (by omega) (by omega) (k h1 _ ad1 (k_unread (xs (i + 1)) (xs (i + 2)) true hV hn) z1 z2))
theorem st_48 {X : gX} {Q : gQ} (hC : gC M_L_law_c48.1 M_L_law_c48.2.1 M_L_law_c48.2.2.1 M_L_law_c48.2.2.2.1 M_L_law_c48.2.2.2.2.1 M_L_law_c48.2.2.2.2.2.1 M_L_law_c48.2.2.2.2.2.2 X) {n : Nat} {h : gH} {x : gS} {ad : Nat → Nat → Nat} {am : Nat → Nat} {a0 b L q3 q4 i kc ks : Nat} {xs : Nat → Int32} (hI : lawI h x ad am b L q3 q4 xs) (h0 : ad 0 0 = a0) (hV : Inv n x) (hn : n < 512) (hi : i + 4 ≤ L) (hL : L ≤ 2048) (hk : 10 ≤ kc) (hks : 3063 ≤ ks) (k : lwK X Q n a0 am b L q3 q4 i (kc - 10) (ks - 3063) xs) : gd 9 X Q 3068 [some (.ref b), some (.ref a0), some (.ref (am 0)), some (.ref q3), some (.ref q4), some (.int (nI i)), none, none, none] [] h kc ks := by
  subst h0
  exact case_48 hC hI (hV.w hn) (hV.v hn) hi hL (by omega) (by omega) (fun h1 ad1 z1 z2 => gd_le gle_rfl (by omega) (by omega) (k h1 _ ad1 (k_events hV hn) z1 z2))
theorem st_49 {X : gX} {Q : gQ} (hC : gC M_L_law_c49.1 M_L_law_c49.2.1 M_L_law_c49.2.2.1 M_L_law_c49.2.2.2.1 M_L_law_c49.2.2.2.2.1 M_L_law_c49.2.2.2.2.2.1 M_L_law_c49.2.2.2.2.2.2 X) {n : Nat} {h : gH} {x : gS} {ad : Nat → Nat → Nat} {am : Nat → Nat} {a0 b L q3 q4 i kc ks : Nat} {xs : Nat → Int32} (hI : lawI h x ad am b L q3 q4 xs) (h0 : ad 0 0 = a0) (hV : Inv n x) (hn : n < 512) (hi : i + 4 ≤ L) (hL : L ≤ 2048) (hk : 10 ≤ kc) (hks : 3063 ≤ ks) (k : lwK X Q n a0 am b L q3 q4 i (kc - 10) (ks - 3063) xs) : gd 9 X Q 3081 [some (.ref b), some (.ref a0), some (.ref (am 0)), some (.ref q3), some (.ref q4), some (.int (nI i)), none, none, none] [] h kc ks := by
  subst h0
  exact case_49 hC hI (hV.w hn) (hV.v hn) hi hL (by omega) (by omega) (fun h1 ad1 z1 z2 => gd_le gle_rfl (by omega) (by omega) (k h1 _ ad1 (k_eventsOf (((xs (i + 1)).toUInt32 % 65536).toInt32) hV hn) z1 z2))
theorem st_50 {X : gX} {Q : gQ} (hC : gC M_L_law_c50.1 M_L_law_c50.2.1 M_L_law_c50.2.2.1 M_L_law_c50.2.2.2.1 M_L_law_c50.2.2.2.2.1 M_L_law_c50.2.2.2.2.2.1 M_L_law_c50.2.2.2.2.2.2 X) {n : Nat} {h : gH} {x : gS} {ad : Nat → Nat → Nat} {am : Nat → Nat} {a0 b L q3 q4 i kc ks : Nat} {xs : Nat → Int32} (hI : lawI h x ad am b L q3 q4 xs) (h0 : ad 0 0 = a0) (hV : Inv n x) (hn : n < 512) (hi : i + 4 ≤ L) (hL : L ≤ 2048) (hk : 10 ≤ kc) (hks : 3063 ≤ ks) (k : lwK X Q n a0 am b L q3 q4 i (kc - 10) (ks - 3063) xs) : gd 9 X Q 3139 [some (.ref b), some (.ref a0), some (.ref (am 0)), some (.ref q3), some (.ref q4), some (.int (nI i)), none, none, none] [] h kc ks := by
  subst h0
  exact case_50 hC hI (hV.w hn) (hV.v hn) hi hL (by omega) (by omega) lx_sf (fun w e => (lx_sd hV hn w e).1) lx_sf (lx_sd hV hn) (fun h1 ad1 z1 z2 => gd_le gle_rfl (by omega) (by omega) (k h1 _ ad1 (k_seenShare (xs (i + 1)) hV hn) z1 z2))
theorem st_51 {X : gX} {Q : gQ} (hC : gC M_L_law_c51.1 M_L_law_c51.2.1 M_L_law_c51.2.2.1 M_L_law_c51.2.2.2.1 M_L_law_c51.2.2.2.2.1 M_L_law_c51.2.2.2.2.2.1 M_L_law_c51.2.2.2.2.2.2 X) {n : Nat} {h : gH} {x : gS} {ad : Nat → Nat → Nat} {am : Nat → Nat} {a0 b L q3 q4 i kc ks : Nat} {xs : Nat → Int32} (hI : lawI h x ad am b L q3 q4 xs) (h0 : ad 0 0 = a0) (hV : Inv n x) (hn : n < 512) (hi : i + 4 ≤ L) (hL : L ≤ 2048) (hk : 10 ≤ kc) (hks : 3063 ≤ ks) (k : lwK X Q n a0 am b L q3 q4 i (kc - 10) (ks - 3063) xs) : gd 9 X Q 3217 [some (.ref b), some (.ref a0), some (.ref (am 0)), some (.ref q3), some (.ref q4), some (.int (nI i)), none, none, none] [] h kc ks := by
  subst h0
  exact case_51 hC hI (hV.w hn) (hV.v hn) hi hL (by omega) (by omega) (okA_ok (hV.i (by omega))) (lx_ad hV hn) (fun h1 ad1 z1 z2 => gd_le gle_rfl (by omega) (by omega) (k h1 _ ad1 (k_activity (xs (i + 1)) hV hn) z1 z2))
theorem st_52 {X : gX} {Q : gQ} (hC : gC M_L_law_c52.1 M_L_law_c52.2.1 M_L_law_c52.2.2.1 M_L_law_c52.2.2.2.1 M_L_law_c52.2.2.2.2.1 M_L_law_c52.2.2.2.2.2.1 M_L_law_c52.2.2.2.2.2.2 X) {n : Nat} {h : gH} {x : gS} {ad : Nat → Nat → Nat} {am : Nat → Nat} {a0 b L q3 q4 i kc ks : Nat} {xs : Nat → Int32} (hI : lawI h x ad am b L q3 q4 xs) (h0 : ad 0 0 = a0) (hV : Inv n x) (hn : n < 512) (hi : i + 4 ≤ L) (hL : L ≤ 2048) (hk : 10 ≤ kc) (hks : 3063 ≤ ks) (k : lwK X Q n a0 am b L q3 q4 i (kc - 10) (ks - 3063) xs) : gd 9 X Q 3294 [some (.ref b), some (.ref a0), some (.ref (am 0)), some (.ref q3), some (.ref q4), some (.int (nI i)), none, none, none] [] h kc ks := by
  subst h0
  exact case_52 hC hI (hV.w hn) (hV.v hn) hi hL (by omega) (by omega) (okA_ok (hV.i (by omega))) (act_s (hV.i (by omega))) (fun h1 ad1 z1 z2 => gd_le gle_rfl (by omega) (by omega) (k h1 _ ad1 (k_activityBits (xs (i + 1)) hV hn) z1 z2))
