/-! a message more; each call keeps the invariant -/
def anO (pa : Nat → Option Nat) (N : Nat) (p : Option Nat) (m : Nat) : Nat := match p with
  | none => 0
  | some q => (anc pa N q m).toNat
theorem I5_post {x x1 : gS} {p : Option Nat} (h5 : I5 x) (hpa : ∀ m, m < g_nm x → ∀ p, g_pa x m = some p → p < m) (hnm1 : g_nm x1 = g_nm x + 1) (hpa1 : g_pa x1 = gup (g_pa x) (g_nm x) p) (hdp1 : g_dp x1 = gup (g_dp x) (g_nm x) (dpN x p)) (hts1 : g_ts x1 = tsA (g_pa x) (g_nm x) p (gup (g_ts x) (g_nm x) 1)) (hp : ∀ q, p = some q → q < g_nm x) (hm60 : g_nm x < 60) : I5 x1 := by
  have hW : ∀ n m, m < g_nm x → g_nm x ≤ n + m → (wkF x1 n m).length = (wkF x n m).length + anO (g_pa x) (g_nm x) p m := fun n m a b => by
    have z := wk_new (x := x) (x1 := x1) hnm1 hpa1 hpa hp n m a b
    cases p with
    | none => exact z
    | some q => exact z
  have htsv : ∀ m, g_ts x1 m = gup (g_ts x) (g_nm x) 1 m + anO (g_pa x) (g_nm x) p m := fun m => by
    rw [hts1]
    cases p with
    | none =>
      have hn : ∀ (k : Nat) (f : Nat → Nat), tsA (g_pa x) k none f = f := fun k f => by cases k <;> rfl
      show tsA (g_pa x) (g_nm x) none _ m = _ + 0
      rw [hn]
      rfl
    | some q => exact tsA_anc hpa (g_nm x) q _ m (hp q rfl)
  intro m hm
  rw [hnm1] at hm
  rw [hnm1, hpa1, hdp1, htsv]
  by_cases hmn : m = g_nm x
  · have ha0 : anO (g_pa x) (g_nm x) p m = 0 := by
      cases p with
      | none => rfl
      | some q =>
        have hq := hp q rfl
        show (anc (g_pa x) (g_nm x) q m).toNat = 0
        have hf : anc (g_pa x) (g_nm x) q m = false := (Bool.not_eq_true _).mp (fun z => by have := anc_le hpa (g_nm x) q m hq z; omega)
        rw [hf]
        rfl
    have hw1 : (wkF x1 60 m).length = 1 := by
      show (m :: (kids x1 m).flatMap _).length = 1
      have hk : kids x1 m = [] := by
        unfold kids
        rw [hnm1, show g_nm x + 1 - (m + 1) = 0 by omega]
        rfl
      rw [hk]
      rfl
    rw [ha0, hw1, hmn, gup_at, gup_at, gup_at]
    refine ⟨?_, rfl, by omega⟩
    cases p with
    | none => rfl
    | some q =>
      have hq := hp q rfl
      show g_dp x q + 1 = gup (g_dp x) (g_nm x) _ q + 1
      rw [gup_of (by omega)]
  · obtain ⟨t1, t2, t3⟩ := h5 m (by omega)
    rw [hW 60 m (by omega) (by omega), gup_of hmn, gup_of hmn, gup_of hmn, t2]
    refine ⟨?_, rfl, ?_⟩
    · rw [t1]
      cases hq : g_pa x m with
      | none => rfl
      | some q =>
        have hq2 := hpa m (by omega) q hq
        show g_dp x q + 1 = gup (g_dp x) (g_nm x) _ q + 1
        rw [gup_of (by omega)]
    · have hb : anO (g_pa x) (g_nm x) p m ≤ 1 := by
        cases p with
        | none => exact Nat.zero_le _
        | some q => exact Bool.toNat_le _
      omega
theorem inv_post {n : Nat} {x : gS} {i j0 : Nat} {p : Option Nat} (h : Inv n x) (hn : n < 512) (hi : i < g_nu x) (hr : j0 < g_nr x) (hm60 : g_nm x < 60) (hp : ∀ q, p = some q → q < g_nm x) (hc : ¬ Op.cmpValue (FP.fcmp (g_tok x i) FP.fconst1) .g < 0) : Inv (n + 1) (m_see (m_note (m_post x i j0 p) (115, nI i, nI j0, nI (g_rms x j0).length, lmk (g_dr x i) (g_dr x i).length)) i) := by
  have hfull := h
  obtain ⟨h1, h2, h3, h4, h5, h6, h7⟩ := h
  refine ⟨?_, ?_, ?_, ?_, ?_, ?_, ?_⟩
  · obtain ⟨a1, a2, a3, a4, a5, a6, a7⟩ := h1
    unfold I1
    simp only [em_see, em_note, em_post]
    exact ⟨a1, a2, by omega, by omega, a5, by rw [List.length_append, List.length_singleton]; omega, gup_le a7⟩
  · unfold I2
    simp only [em_see, em_note, em_post]
    exact h2
  · have hrl : g_rms x j0 = (List.range (g_nm x)).filter (fun m => g_rm x m == j0) := h3.2.1 j0
    have hcg : ∀ (k : Nat), k ≤ g_nm x → ∀ r, (List.range k).filter (fun m => gup (g_rm x) (g_nm x) j0 m == r) = (List.range k).filter (fun m => g_rm x m == r) := fun k hk r => List.filter_congr (fun m hm => by
      have := List.mem_range.mp hm
      rw [gup_of (by omega)])
    unfold I3
    simp only [em_see, em_note, em_post]
    refine ⟨fun m hm => ?_, fun r => ?_, fun r u => ?_⟩
    · by_cases hmn : m = g_nm x
      · rw [hmn]
        simp only [gup_at]
        refine ⟨hi, hr, Nat.le_refl _, hp, ?_⟩
        rw [hrl, ← List.countP_eq_length_filter, List.countP_eq_length_filter, List.countP_eq_length_filter, hcg _ (Nat.le_refl _)]
      · obtain ⟨t1, t2, t3, t4, t5⟩ := h3.1 m (by omega)
        simp only [gup_of hmn]
        refine ⟨t1, t2, t3, t4, ?_⟩
        rw [t5, List.countP_eq_length_filter, List.countP_eq_length_filter, hcg m (by omega)]
    · rw [List.range_succ, List.filter_append, hcg _ (Nat.le_refl _), List.filter_cons, List.filter_nil, gup_at]
      by_cases hrj : r = j0
      · rw [hrj, gup_at, if_pos (beq_self_eq_true _), hrl]
      · rw [gup_of hrj, if_neg (by simpa using fun z : j0 = r => hrj z.symm), List.append_nil]
        exact h3.2.1 r
    · by_cases hrj : r = j0
      · rw [hrj, gup_at, List.length_append]
        exact Nat.le_trans (h3.2.2 j0 u) (Nat.le_add_right _ _)
      · rw [gup_of hrj]
        exact h3.2.2 r u
  · obtain ⟨d1, d2, d3, d4, d5⟩ := h4
    have hme : ∀ v ∈ g_mem x j0, v < 6 := fun v hv => Nat.lt_of_lt_of_le ((h2.1 _).2 v hv) h1.1
    have hi6 : i < 6 := Nat.lt_of_lt_of_le hi h1.1
    unfold I4
    simp only [em_see, em_note, em_post]
    refine ⟨fun u => ?_, fun u hu => ?_, fun m => ?_, fun m hm => ?_, fun m hm => ?_⟩
    · unfold gup
      split
      · exact ⟨by decide, fun j hj => absurd hj (Nat.not_lt_zero j)⟩
      · exact d1 u
    · rw [gup_of (by omega)]
      exact d2 u hu
    · unfold gup
      split
      · exact d1 i
      · exact d3 m
    · by_cases hmn : m = g_nm x
      · rw [hmn]
        simp only [gup_at]
        exact ⟨Nat.zero_le _, mmX_lt hme hi6, fun u hu => mmX_tb hme hi6 hu⟩
      · simp only [gup_of hmn]
        have q := d4 m (by omega)
        exact ⟨by have := q.1; omega, q.2⟩
    · rw [gup_of (by omega), gup_of (by omega)]
      exact d5 m (by omega)
  · exact I5_post (x := x) (p := p) h5 (fun m hm => (h3.1 m hm).2.2.2.1) (by simp only [em_see, em_note, em_post]) (by simp only [em_see, em_note, em_post]) (by simp only [em_see, em_note, em_post]; rfl) (by simp only [em_see, em_note, em_post]) hp hm60
  · unfold I6
    simp only [em_see, em_note, em_post]
    intro u hu
    by_cases hui : u = i
    · rw [hui, gup_at]
      obtain ⟨k9, k1, k2⟩ := h6 i hi
      rw [k2] at hc ⊢
      exact ⟨k9 - 64, by omega, (tk_1 k9 (by omega) hc).2⟩
    · rw [gup_of hui]
      exact h6 u hu
  · obtain ⟨e1, e2, e3⟩ := h7
    have hi6 : i < 6 := Nat.lt_of_lt_of_le hi h1.1
    have hr4 := h1.2.1
    have hii := hfull.i (show n ≤ 512 by omega)
    have hrl0 := (hii.2.2.1 j0).1
    have hin : ∀ j m, m ∈ g_rms x j → m < g_nm x := fun j m hm => (hii.2.2.1 j).2 m hm
    unfold I7 rpI
    simp only [em_see, em_note, em_post]
    refine ⟨fun v hv => ?_, ?_, fun j hj rd hrd => ?_⟩
    · rcases List.mem_append.mp hv with q | q
      · exact e1 v q
      · rw [List.mem_singleton.mp q]
        exact ⟨Or.inr ⟨⟨i, hi6, rfl⟩, lmk_lt _ _, Or.inr (Or.inr (Or.inr (Or.inl ⟨Or.inl rfl, (g_rms x j0).length, by omega, rfl⟩)))⟩, 4, by decide, rfl⟩
    · rw [List.countP_append, e2]
      rfl
    · obtain ⟨r1, r2, r3, r4⟩ := e3 j hj rd hrd
      by_cases hjr : j = j0
      · subst hjr
        rw [rpR_in]
        have w : rpS rd (115, nI i, nI j, nI (g_rms x j).length, lmk (g_dr x i) (g_dr x i).length) (rpR (g_log x) rd j) = ((rpR (g_log x) rd j).1 + 1, (rpR (g_log x) rd j).2.1, (rpR (g_log x) rd j).2.2.1, gup (rpR (g_log x) rd j).2.2.2.1 (rpR (g_log x) rd j).1 (nI i).toNatClampNeg, gup (rpR (g_log x) rd j).2.2.2.2.1 (rpR (g_log x) rd j).1 ((lmk (g_dr x i) (g_dr x i).length &&& (rpR (g_log x) rd j).2.1) &&& (63 ^^^ 2 ^ (nI i).toNatClampNeg)), gup (rpR (g_log x) rd j).2.2.2.2.2 (rpR (g_log x) rd j).1 false) := rfl
        rw [w, ncl (by omega)]
        simp only [gup_at]
        refine ⟨by rw [r1, List.length_append]; rfl, r2, r3, fun q m hq => ?_⟩
        by_cases hql : q < (g_rms x j).length
        · rw [List.getElem?_append_left hql] at hq
          obtain ⟨t1, t2, t3⟩ := r4 q m hq
          have hmn := hin j m (List.mem_of_getElem? hq)
          rw [r1, gup_of (by omega), gup_of (by omega), gup_of (by omega), gup_of (by omega), gup_of (by omega), gup_of (by omega)]
          exact ⟨t1, t2, t3⟩
        · have hqe : q = (g_rms x j).length := by
            have := (List.getElem?_eq_some_iff.mp hq).1
            rw [List.length_append, List.length_singleton] at this
            omega
          subst hqe
          rw [List.getElem?_append_right (Nat.le_refl _), Nat.sub_self] at hq
          cases hq
          rw [r1, r2, gup_at, gup_at, gup_at, gup_at, gup_at, gup_at]
          exact ⟨rfl, rfl, fun _ => rfl⟩
      · rw [rpR_out hjr (by omega) (by omega)]
        simp only [gup_of hjr]
        refine ⟨r1, r2, r3, fun q m hq => ?_⟩
        obtain ⟨t1, t2, t3⟩ := r4 q m hq
        have hmn := hin j m (List.mem_of_getElem? hq)
        rw [gup_of (by omega), gup_of (by omega), gup_of (by omega)]
        exact ⟨t1, t2, t3⟩
theorem okT_ins {l : List Nat} {k c : Nat} (h : okT l) (hl : l.length < 20) (hk : k ≤ l.length) (hc : c < 128) : okT (insL l k c) := by
  refine ⟨by rw [insL_len]; omega, fun j hj => ?_⟩
  rw [insL_len] at hj
  rw [insL_get hk]
  split
  · exact h.2 j (by omega)
  · split
    · exact hc
    · exact h.2 (j - 1) (by omega)
theorem okT_take {l : List Nat} {k : Nat} (h : okT l) : okT (l.take k) := by
  have hl : (l.take k).length ≤ l.length := by rw [List.length_take]; omega
  refine ⟨Nat.le_trans hl h.1, fun j hj => ?_⟩
  have hj2 := hj
  rw [List.length_take] at hj2
  rw [List.getD_eq_getElem?_getD, List.getElem?_take_of_lt (by omega), ← List.getD_eq_getElem?_getD]
  exact h.2 j (by omega)
theorem okT_rev {l : List Nat} (h : okT l) : okT l.reverse := by
  refine ⟨by rw [List.length_reverse]; exact h.1, fun j hj => ?_⟩
  rw [List.length_reverse] at hj
  rw [List.getD_eq_getElem?_getD, List.getElem?_reverse hj, ← List.getD_eq_getElem?_getD]
  exact h.2 _ (by omega)
theorem rk_lt {n : Nat} {x : gS} (h : Inv n x) (hn : n < 512) {k : Nat} (hk : k < g_nm x) : g_rk x k + 1 ≤ (g_rms x (g_rm x k)).length := by
  have hv := h.v hn
  have q := (List.getElem?_eq_some_iff.mp (flt_get (x := x) (r := g_rm x k) (m := k) rfl (g_nm x) hk)).1
  rw [hv.rms, rk_len (hv.rk k hk)]
  exact q
theorem k_register {n : Nat} {x : gS} (h : Inv n x) (hn : n < 512) : Inv (n + 1) (o_register x ).2 := c_if (P := Inv (n + 1)) (fun q => h.up) (fun q => inv_reg h hn (by omega))
theorem k_beat (u : Int32) {n : Nat} {x : gS} (h : Inv n x) (hn : n < 512) : Inv (n + 1) (o_beat x u).2 := c_U (P := Inv (n + 1)) h.1.1 h.up (fun i hi => inv_see h hn)
theorem k_pass (s : Int32) {n : Nat} {x : gS} (h : Inv n x) (hn : n < 512) : Inv (n + 1) (o_pass x s).2 := by
  unfold o_pass
  split
  · exact h.up
  · rename_i q
    have h0 : ¬ s < 0 := fun z => q (Or.inl (Int32.lt_trans z (by decide +kernel)))
    obtain ⟨s0, hs0, rfl⟩ := nI_of h0
    rw [nlt (by omega) (by omega), nlt (by omega) (by omega)] at q
    show Inv (n + 1) (m_note _ _)
    rw [ncl (by omega)]
    exact inv_pass h hn (by omega) (by omega)
theorem k_setRefill (r : Int32) {n : Nat} {x : gS} (h : Inv n x) (hn : n < 512) : Inv (n + 1) (o_setRefill x r).2 := by
  unfold o_setRefill
  split
  · exact h.up
  · rename_i q
    have h0 : ¬ r < 0 := fun z => q (Or.inl z)
    obtain ⟨s0, hs0, rfl⟩ := nI_of h0
    rw [nlt (by omega) (by omega)] at q
    show Inv (n + 1) (s_rf _ _)
    rw [ncl (by omega)]
    exact inv_rf h hn (by omega)
theorem k_open (u : Int32) {n : Nat} {x : gS} (h : Inv n x) (hn : n < 512) : Inv (n + 1) (o_open x u).2 := c_U (P := Inv (n + 1)) h.1.1 h.up (fun i hi => c_if (P := Inv (n + 1)) (fun q => h.up) (fun q => inv_open h hn hi (by omega)))
theorem k_join (u : Int32) (r : Int32) {n : Nat} {x : gS} (h : Inv n x) (hn : n < 512) : Inv (n + 1) (o_join x u r).2 := c_U (P := Inv (n + 1)) h.1.1 h.up (fun i hi => c_R (P := Inv (n + 1)) h.1.2.1 h.up (fun j hj => c_if (P := Inv (n + 1)) (fun q => h.up) (fun q => inv_join h hn hi hj q)))
theorem k_leave (u : Int32) (r : Int32) {n : Nat} {x : gS} (h : Inv n x) (hn : n < 512) : Inv (n + 1) (o_leave x u r).2 := c_U (P := Inv (n + 1)) h.1.1 h.up (fun i hi => c_R (P := Inv (n + 1)) h.1.2.1 h.up (fun j hj => c_if (P := Inv (n + 1)) (fun q => inv_leave h hn hi hj) (fun q => h.up)))
theorem k_insert (u : Int32) (k : Int32) (c : Int32) {n : Nat} {x : gS} (h : Inv n x) (hn : n < 512) : Inv (n + 1) (o_insert x u k c).2 := c_U (P := Inv (n + 1)) h.1.1 h.up (fun i hi => c_I (P := Inv (n + 1)) (by have := (h.2.2.2.1.1 i).1; omega) h.up (fun j hj => c_C (P := Inv (n + 1)) h.up (fun d hd => c_if (P := Inv (n + 1)) (fun q => h.up) (fun q => inv_dr h hn hi (okT_ins (h.2.2.2.1.1 i) (by omega) (by omega) hd)))))
theorem k_type (u : Int32) (c : Int32) {n : Nat} {x : gS} (h : Inv n x) (hn : n < 512) : Inv (n + 1) (o_type x u c).2 := c_U (P := Inv (n + 1)) h.1.1 h.up (fun i hi => c_C (P := Inv (n + 1)) h.up (fun d hd => c_if (P := Inv (n + 1)) (fun q => h.up) (fun q => inv_dr h hn hi (okT_ins (h.2.2.2.1.1 i) (by omega) (Nat.le_refl _) hd))))
theorem k_erase (u : Int32) {n : Nat} {x : gS} (h : Inv n x) (hn : n < 512) : Inv (n + 1) (o_erase x u).2 := c_U (P := Inv (n + 1)) h.1.1 h.up (fun i hi => c_if (P := Inv (n + 1)) (fun q => h.up) (fun q => inv_dr h hn hi (okT_take (h.2.2.2.1.1 i))))
theorem k_reverse (u : Int32) {n : Nat} {x : gS} (h : Inv n x) (hn : n < 512) : Inv (n + 1) (o_reverse x u).2 := c_U (P := Inv (n + 1)) h.1.1 h.up (fun i hi => inv_dr h hn hi (okT_rev (h.2.2.2.1.1 i)))
theorem k_post {n : Nat} {x : gS} (h : Inv n x) (hn : n < 512) {i j : Nat} {p : Option Nat} (hi : i < g_nu x) (hj : j < g_nr x) (hp : ∀ q, p = some q → q < g_nm x) : Inv (n + 1) (o_post x i j p).2 := c_if (P := Inv (n + 1)) (fun q => h.up) (fun q => inv_post h hn hi hj (by
  have : ¬ 60 ≤ g_nm x := fun z => q (Or.inr (Or.inr z))
  omega) hp (fun z => q (Or.inr (Or.inl z))))
theorem k_say (u : Int32) (r : Int32) {n : Nat} {x : gS} (h : Inv n x) (hn : n < 512) : Inv (n + 1) (o_say x u r).2 := c_U (P := Inv (n + 1)) h.1.1 h.up (fun i hi => c_R (P := Inv (n + 1)) h.1.2.1 h.up (fun j hj => c_if (P := Inv (n + 1)) (fun q => k_post h hn hi hj (fun _ z => by cases z)) (fun q => h.up)))
theorem k_reply (u : Int32) (m : Int32) {n : Nat} {x : gS} (h : Inv n x) (hn : n < 512) : Inv (n + 1) (o_reply x u m).2 := c_U (P := Inv (n + 1)) h.1.1 h.up (fun i hi => c_M (P := Inv (n + 1)) h.1.2.2.1 h.up (fun k hk => c_if (P := Inv (n + 1)) (fun q => k_post h hn hi (h.2.2.1.1 k hk).2.1 (fun _ z => by cases z; exact hk)) (fun q => h.up)))
theorem k_edit (u : Int32) (m : Int32) {n : Nat} {x : gS} (h : Inv n x) (hn : n < 512) : Inv (n + 1) (o_edit x u m).2 := c_U (P := Inv (n + 1)) h.1.1 h.up (fun i hi => c_M (P := Inv (n + 1)) h.1.2.2.1 h.up (fun k hk => c_if (P := Inv (n + 1)) (fun q => h.up) (fun q => c_if (P := Inv (n + 1)) (fun q2 => h.up) (fun q2 => inv_edit h hn hi hk (Classical.byContradiction fun z => q (Or.inl z)) (fun z => q2 (Or.inr z))))))
theorem k_remove (u : Int32) (m : Int32) {n : Nat} {x : gS} (h : Inv n x) (hn : n < 512) : Inv (n + 1) (o_remove x u m).2 := c_U (P := Inv (n + 1)) h.1.1 h.up (fun i hi => c_M (P := Inv (n + 1)) h.1.2.2.1 h.up (fun k hk => c_if (P := Inv (n + 1)) (fun q => h.up) (fun q => inv_gone h hn hi hk)))
theorem k_read (u : Int32) (r : Int32) {n : Nat} {x : gS} (h : Inv n x) (hn : n < 512) : Inv (n + 1) (o_read x u r).2 := c_U (P := Inv (n + 1)) h.1.1 h.up (fun i hi => c_R (P := Inv (n + 1)) h.1.2.1 h.up (fun j hj => c_if (P := Inv (n + 1)) (fun q => inv_read h hn hi hj (Nat.le_refl _)) (fun q => h.up)))
theorem k_readTo (u : Int32) (m : Int32) {n : Nat} {x : gS} (h : Inv n x) (hn : n < 512) : Inv (n + 1) (o_readTo x u m).2 := c_U (P := Inv (n + 1)) h.1.1 h.up (fun i hi => c_M (P := Inv (n + 1)) h.1.2.2.1 h.up (fun k hk => c_if (P := Inv (n + 1)) (fun q => inv_read h hn hi (h.2.2.1.1 k hk).2.1 (rk_lt h hn hk)) (fun q => h.up)))
theorem k_users {n : Nat} {x : gS} (h : Inv n x) (hn : n < 512) : Inv (n + 1) (o_users x ).2 := h.up
theorem k_rooms {n : Nat} {x : gS} (h : Inv n x) (hn : n < 512) : Inv (n + 1) (o_rooms x ).2 := h.up
theorem k_messages {n : Nat} {x : gS} (h : Inv n x) (hn : n < 512) : Inv (n + 1) (o_messages x ).2 := h.up
theorem k_time {n : Nat} {x : gS} (h : Inv n x) (hn : n < 512) : Inv (n + 1) (o_time x ).2 := h.up
theorem k_events {n : Nat} {x : gS} (h : Inv n x) (hn : n < 512) : Inv (n + 1) (o_events x ).2 := h.up
theorem k_presence (u : Int32) {n : Nat} {x : gS} (h : Inv n x) (hn : n < 512) : Inv (n + 1) (o_presence x u).2 := c_U (P := Inv (n + 1)) h.1.1 h.up (fun i hi => h.up)
theorem k_tokens (u : Int32) {n : Nat} {x : gS} (h : Inv n x) (hn : n < 512) : Inv (n + 1) (o_tokens x u).2 := c_U (P := Inv (n + 1)) h.1.1 h.up (fun i hi => h.up)
theorem k_tokenBits (u : Int32) {n : Nat} {x : gS} (h : Inv n x) (hn : n < 512) : Inv (n + 1) (o_tokenBits x u).2 := c_U (P := Inv (n + 1)) h.1.1 h.up (fun i hi => h.up)
theorem k_draftLength (u : Int32) {n : Nat} {x : gS} (h : Inv n x) (hn : n < 512) : Inv (n + 1) (o_draftLength x u).2 := c_U (P := Inv (n + 1)) h.1.1 h.up (fun i hi => h.up)
theorem k_draftAt (u : Int32) (k : Int32) {n : Nat} {x : gS} (h : Inv n x) (hn : n < 512) : Inv (n + 1) (o_draftAt x u k).2 := c_U (P := Inv (n + 1)) h.1.1 h.up (fun i hi => c_I (P := Inv (n + 1)) (by have := (h.2.2.2.1.1 i).1; omega) h.up (fun _ _ => h.up))
theorem k_members (r : Int32) {n : Nat} {x : gS} (h : Inv n x) (hn : n < 512) : Inv (n + 1) (o_members x r).2 := c_R (P := Inv (n + 1)) h.1.2.1 h.up (fun j hj => h.up)
theorem k_memberAt (r : Int32) (k : Int32) {n : Nat} {x : gS} (h : Inv n x) (hn : n < 512) : Inv (n + 1) (o_memberAt x r k).2 := c_R (P := Inv (n + 1)) h.1.2.1 h.up (fun j hj => c_I (P := Inv (n + 1)) (by have := ((h.i (by omega)).2.1 j).2.1; omega) h.up (fun _ _ => h.up))
theorem k_present (r : Int32) {n : Nat} {x : gS} (h : Inv n x) (hn : n < 512) : Inv (n + 1) (o_present x r).2 := c_R (P := Inv (n + 1)) h.1.2.1 h.up (fun j hj => h.up)
theorem k_owner (r : Int32) {n : Nat} {x : gS} (h : Inv n x) (hn : n < 512) : Inv (n + 1) (o_owner x r).2 := c_R (P := Inv (n + 1)) h.1.2.1 h.up (fun j hj => c_if (P := Inv (n + 1)) (fun q => h.up) (fun q => h.up))
theorem k_countOf (r : Int32) {n : Nat} {x : gS} (h : Inv n x) (hn : n < 512) : Inv (n + 1) (o_countOf x r).2 := c_R (P := Inv (n + 1)) h.1.2.1 h.up (fun j hj => h.up)
theorem k_messageAt (r : Int32) (k : Int32) {n : Nat} {x : gS} (h : Inv n x) (hn : n < 512) : Inv (n + 1) (o_messageAt x r k).2 := c_R (P := Inv (n + 1)) h.1.2.1 h.up (fun j hj => c_I (P := Inv (n + 1)) (by have := ((h.i (by omega)).2.2.1 j).1; have := h.1.2.2.1; omega) h.up (fun _ _ => h.up))
theorem k_rankOf (m : Int32) {n : Nat} {x : gS} (h : Inv n x) (hn : n < 512) : Inv (n + 1) (o_rankOf x m).2 := c_M (P := Inv (n + 1)) h.1.2.2.1 h.up (fun k hk => h.up)
theorem k_author (m : Int32) {n : Nat} {x : gS} (h : Inv n x) (hn : n < 512) : Inv (n + 1) (o_author x m).2 := c_M (P := Inv (n + 1)) h.1.2.2.1 h.up (fun k hk => h.up)
theorem k_roomOf (m : Int32) {n : Nat} {x : gS} (h : Inv n x) (hn : n < 512) : Inv (n + 1) (o_roomOf x m).2 := c_M (P := Inv (n + 1)) h.1.2.2.1 h.up (fun k hk => h.up)
theorem k_length (m : Int32) {n : Nat} {x : gS} (h : Inv n x) (hn : n < 512) : Inv (n + 1) (o_length x m).2 := c_M (P := Inv (n + 1)) h.1.2.2.1 h.up (fun k hk => h.up)
theorem k_charAt (m : Int32) (k : Int32) {n : Nat} {x : gS} (h : Inv n x) (hn : n < 512) : Inv (n + 1) (o_charAt x m k).2 := c_M (P := Inv (n + 1)) h.1.2.2.1 h.up (fun k9 hk => c_I (P := Inv (n + 1)) (by have := (h.2.2.2.1.2.2.1 k9).1; omega) h.up (fun _ _ => h.up))
theorem k_edits (m : Int32) {n : Nat} {x : gS} (h : Inv n x) (hn : n < 512) : Inv (n + 1) (o_edits x m).2 := c_M (P := Inv (n + 1)) h.1.2.2.1 h.up (fun k hk => h.up)
theorem k_isRemoved (m : Int32) {n : Nat} {x : gS} (h : Inv n x) (hn : n < 512) : Inv (n + 1) (o_isRemoved x m).2 := c_M (P := Inv (n + 1)) h.1.2.2.1 h.up (fun k hk => h.up)
theorem k_depth (m : Int32) {n : Nat} {x : gS} (h : Inv n x) (hn : n < 512) : Inv (n + 1) (o_depth x m).2 := c_M (P := Inv (n + 1)) h.1.2.2.1 h.up (fun k hk => h.up)
theorem k_threadSize (m : Int32) {n : Nat} {x : gS} (h : Inv n x) (hn : n < 512) : Inv (n + 1) (o_threadSize x m).2 := c_M (P := Inv (n + 1)) h.1.2.2.1 h.up (fun k hk => h.up)
theorem k_threadAt (m : Int32) (k : Int32) {n : Nat} {x : gS} (h : Inv n x) (hn : n < 512) : Inv (n + 1) (o_threadAt x m k).2 := c_M (P := Inv (n + 1)) h.1.2.2.1 h.up (fun k9 hk => c_I (P := Inv (n + 1)) (by have := (h.2.2.2.2.1 k9 hk).2.2; have := h.1.2.2.1; omega) h.up (fun _ _ => h.up))
theorem k_mentions (m : Int32) (u : Int32) {n : Nat} {x : gS} (h : Inv n x) (hn : n < 512) : Inv (n + 1) (o_mentions x m u).2 := c_M (P := Inv (n + 1)) h.1.2.2.1 h.up (fun k hk => c_U (P := Inv (n + 1)) h.1.1 h.up (fun i hi => h.up))
theorem k_eventsOf (c : Int32) {n : Nat} {x : gS} (h : Inv n x) (hn : n < 512) : Inv (n + 1) (o_eventsOf x c).2 := c_if (P := Inv (n + 1)) (fun q => h.up) (fun q => h.up)
theorem k_seenShare (m : Int32) {n : Nat} {x : gS} (h : Inv n x) (hn : n < 512) : Inv (n + 1) (o_seenShare x m).2 := c_M (P := Inv (n + 1)) h.1.2.2.1 h.up (fun k hk => c_if (P := Inv (n + 1)) (fun q => h.up) (fun q => h.up))
theorem k_activity (u : Int32) {n : Nat} {x : gS} (h : Inv n x) (hn : n < 512) : Inv (n + 1) (o_activity x u).2 := c_U (P := Inv (n + 1)) h.1.1 h.up (fun i hi => h.up)
theorem k_activityBits (u : Int32) {n : Nat} {x : gS} (h : Inv n x) (hn : n < 512) : Inv (n + 1) (o_activityBits x u).2 := c_U (P := Inv (n + 1)) h.1.1 h.up (fun i hi => h.up)
theorem k_parent (m : Int32) {n : Nat} {x : gS} (h : Inv n x) (hn : n < 512) : Inv (n + 1) (o_parent x m).2 := by
  unfold o_parent
  refine c_M (P := Inv (n + 1)) h.1.2.2.1 h.up (fun k hk => ?_)
  split
  · exact h.up
  · exact h.up
theorem k_unread (u : Int32) (r : Int32) (b : Bool) {n : Nat} {x : gS} (h : Inv n x) (hn : n < 512) : Inv (n + 1) (o_unread x u r b).2 := c_U (P := Inv (n + 1)) h.1.1 h.up (fun i hi => c_R (P := Inv (n + 1)) h.1.2.1 h.up (fun j hj => c_if (P := Inv (n + 1)) (fun q => h.up) (fun q => h.up)))
