/-! what every run keeps -/
def okT (l : List Nat) : Prop := l.length ≤ 20 ∧ ∀ j, j < l.length → l.getD j 0 < 128
def I1 (n : Nat) (x : gS) : Prop := g_nu x ≤ 6 ∧ g_nr x ≤ 4 ∧ g_nm x ≤ 60 ∧ g_now x ≤ 600 * n ∧ g_rf x ≤ 64 ∧ (g_log x).length ≤ n ∧ ∀ u, g_seen x u ≤ g_now x
def I2 (x : gS) : Prop := (∀ r, (g_mem x r).Nodup ∧ ∀ u ∈ g_mem x r, u < g_nu x) ∧ ∀ r, g_nr x ≤ r → g_mem x r = []
def I3 (x : gS) : Prop := (∀ m, m < g_nm x → g_au x m < g_nu x ∧ g_rm x m < g_nr x ∧ g_tm x m ≤ g_now x ∧ (∀ p, g_pa x m = some p → p < m) ∧ g_rk x m = (List.range m).countP (fun q => g_rm x q == g_rm x m)) ∧ (∀ r, g_rms x r = (List.range (g_nm x)).filter (fun m => g_rm x m == r)) ∧ ∀ r u, g_mk x r u ≤ (g_rms x r).length
def I4 (n : Nat) (x : gS) : Prop := (∀ u, okT (g_dr x u)) ∧ (∀ u, g_nu x ≤ u → g_dr x u = []) ∧ (∀ m, okT (g_tx x m)) ∧ (∀ m, m < g_nm x → g_ed x m ≤ n ∧ g_mm x m < 64 ∧ ∀ u, u < 6 → ((g_mm x m).testBit u = true ↔ ¬ g_au x m = u ∧ (mkB (g_th x m)).testBit u = true ∧ lett (g_tx x m) u)) ∧ ∀ m, g_nm x ≤ m → g_ed x m = 0 ∧ g_gone x m = false
def I5 (x : gS) : Prop := ∀ m, m < g_nm x → (g_dp x m = match g_pa x m with
    | none => 0
    | some p => g_dp x p + 1) ∧ g_ts x m = (wkF x 60 m).length ∧ g_ts x m + m ≤ g_nm x
def I6 (x : gS) : Prop := ∀ u, u < g_nu x → ∃ k, k ≤ 256 ∧ g_tok x u = tkV k
def I7 (x : gS) : Prop := (∀ v ∈ g_log x, (v.2.2.1 = -1 ∨ evW v) ∧ ∃ k, k < 9 ∧ v.1 = kcode k) ∧ (g_log x).countP (fun v => v.1 == 115) = g_nm x ∧ ∀ j, j < 4 → ∀ rd, rd < 6 → rpI x j rd
def Inv (n : Nat) (x : gS) : Prop := I1 n x ∧ I2 x ∧ I3 x ∧ I4 n x ∧ I5 x ∧ I6 x ∧ I7 x
theorem wkF_cg {x x1 : gS} (h1 : g_nm x1 = g_nm x) (h2 : g_pa x1 = g_pa x) : ∀ n m, wkF x1 n m = wkF x n m
  | 0, _ => rfl
  | n + 1, m => by
    unfold wkF
    have hk : kids x1 m = kids x m := by
      unfold kids
      rw [h1, h2]
    rw [hk]
    congr 1
    exact fm_cg (fun k _ => wkF_cg h1 h2 n k)
theorem I5.cg {x x1 : gS} (h : I5 x) (h1 : g_nm x1 = g_nm x) (h2 : g_pa x1 = g_pa x) (h3 : g_dp x1 = g_dp x) (h4 : g_ts x1 = g_ts x) : I5 x1 := fun m hm => by
  rw [h1] at hm
  rw [h1, h2, h3, h4, wkF_cg h1 h2]
  exact h m hm
theorem I7.cg {x x1 : gS} (h : I7 x) (h1 : g_log x1 = g_log x) (h2 : g_nm x1 = g_nm x) (h3 : g_rms x1 = g_rms x) (h4 : g_mem x1 = g_mem x) (h5 : g_mk x1 = g_mk x) (h6 : g_au x1 = g_au x) (h7 : g_gone x1 = g_gone x) (h8 : g_mm x1 = g_mm x) : I7 x1 := by
  unfold I7 rpI at *
  rw [h1, h2, h3, h4, h5, h6, h7, h8]
  exact h
theorem gup_le {f : Nat → Nat} {i a : Nat} (h : ∀ u, f u ≤ a) : ∀ u, gup f i a u ≤ a := fun u => by
  unfold gup
  split
  · exact Nat.le_refl _
  · exact h u
section INVA
variable {n : Nat} {x : gS}
theorem dp_le (h3 : I3 x) (h5 : I5 x) : ∀ k m, m ≤ k → m < g_nm x → g_dp x m ≤ m
  | 0, m, hk, hm => by
    have a := (h5 m hm).1
    cases hp : g_pa x m with
    | none => rw [hp] at a; rw [show g_dp x m = 0 from a]; exact Nat.zero_le _
    | some p => have := (h3.1 m hm).2.2.2.1 p hp; omega
  | k + 1, m, hk, hm => by
    have a := (h5 m hm).1
    cases hp : g_pa x m with
    | none => rw [hp] at a; rw [show g_dp x m = 0 from a]; exact Nat.zero_le _
    | some p =>
      have b := (h3.1 m hm).2.2.2.1 p hp
      have c := dp_le h3 h5 k p (by omega) (by omega)
      rw [hp] at a
      have a2 : g_dp x m = g_dp x p + 1 := a
      omega
theorem Inv.i (h : Inv n x) (hn : n ≤ 512) : iX x := by
  obtain ⟨⟨a1, a2, a3, a4, a5, a6, a7⟩, ⟨b1, b2⟩, h3, ⟨d1, d2, d3, d4, d5⟩, h5, h6, h7⟩ := h
  obtain ⟨c1, c2, c3⟩ := h3
  have hl : ∀ r, (g_rms x r).length ≤ g_nm x := fun r => by
    rw [c2 r]
    have z := List.length_filter_le (fun m => g_rm x m == r) (List.range (g_nm x))
    rwa [List.length_range] at z
  refine ⟨⟨a1, a2, a3, by omega, a5, by omega, fun u => (d1 u).1, fun m => (d3 m).1, a7⟩, fun r => ⟨(b1 r).1, Nat.le_trans (nodup_le _ _ (b1 r).1 (b1 r).2) a1, (b1 r).2⟩, fun r => ⟨hl r, fun m hm => ?_⟩, fun m hm => ?_, c3⟩
  · rw [c2 r, List.mem_filter] at hm
    exact List.mem_range.mp hm.1
  · obtain ⟨e1, e2, e3, e4, e5⟩ := c1 m hm
    obtain ⟨f1, f2, -⟩ := d4 m hm
    have g1 := dp_le ⟨c1, c2, c3⟩ h5 m m (Nat.le_refl _) hm
    have g2 := (h5 m hm).2.2
    have g3 := rg_le (fun q => g_rm x q == g_rm x m) m
    exact ⟨e1, e2, f2, by omega, by omega, by omega, by omega, e3, e4⟩
theorem Inv.v (h : Inv n x) (hn : n < 512) : vX x := by
  have hi := h.i (by omega)
  obtain ⟨⟨a1, a2, a3, a4, a5, a6, a7⟩, ⟨b1, b2⟩, ⟨c1, c2, c3⟩, ⟨d1, d2, d3, d4, d5⟩, h5, h6, h7⟩ := h
  refine ⟨hi, ⟨fun m _ => (d3 m).2, fun u _ => (d1 u).2⟩, c2, fun m hm => (c1 m hm).2.2.2.2, fun m hm => (d4 m hm).2.2, fun m hm => (h5 m hm).1, fun m hm => ⟨(h5 m hm).2.1, fun i hi9 => ?_⟩, d5, ⟨b2, d2⟩, by omega, fun v hv => (h7.1 v hv).2⟩
  have hp : ∀ m, m < g_nm x → ∀ p, g_pa x m = some p → p < m := fun m hm => (c1 m hm).2.2.2.1
  have hts : ∀ m, m < g_nm x → g_ts x m = (wkF x 60 m).length := fun m hm => (h5 m hm).2.1
  have hw := wk_eq (x := x) a3 (m := m) (Or.inr (Or.inr True.intro))
  rw [hts m hm] at hi9
  rw [fit_ok a3 hp hts (g_nm x - (m + 1)) (m + 1) m i (by omega) (by omega) (by show i < (m :: (kids x m).flatMap (wkF x 60)).length; rw [← hw]; exact hi9)]
  show _ = (m :: (kids x m).flatMap (wkF x 60)).getD i 0
  rw [← hw]
theorem Inv.w (h : Inv n x) (hn : n < 512) : wX x := by
  have hi := h.i (by omega)
  obtain ⟨⟨a1, a2, a3, a4, a5, a6, a7⟩, ⟨b1, b2⟩, ⟨c1, c2, c3⟩, ⟨d1, d2, d3, d4, d5⟩, h5, h6, h7⟩ := h
  refine ⟨hi, by omega, fun v hv j hj e => ?_, by rw [h7.2.1]; exact a3, h6, okA_ok hi, okB_ok hi, fun v hv => ?_⟩
  · rcases (h7.1 v hv).1 with z | z
    · rw [z] at e
      have z3 := nneg1 (a := j) (by omega)
      rw [← e] at z3
      simp at z3
    · exact z
  · obtain ⟨k, k1, k2⟩ := (h7.1 v hv).2
    rw [k2]
    exact kcode_lt k k1
theorem Inv.up (h : Inv n x) : Inv (n + 1) x := by
  obtain ⟨⟨a1, a2, a3, a4, a5, a6, a7⟩, h2, h3, ⟨d1, d2, d3, d4, d5⟩, h5, h6, h7⟩ := h
  exact ⟨⟨a1, a2, a3, by omega, a5, by omega, a7⟩, h2, h3, ⟨d1, d2, d3, fun m hm => ⟨by have := (d4 m hm).1; omega, (d4 m hm).2⟩, d5⟩, h5, h6, h7⟩
end INVA
theorem Inv.ini : Inv 0 x0 := by
  refine ⟨⟨by decide, by decide, by decide, by decide, by decide, by decide, fun u => Nat.le_refl _⟩, ⟨fun r => ⟨List.nodup_nil, fun u hu => absurd hu List.not_mem_nil⟩, fun r _ => rfl⟩, ⟨fun m hm => absurd hm (Nat.not_lt_zero m), fun r => rfl, fun r u => Nat.le_refl _⟩, ⟨fun u => ⟨(show (0 : Nat) ≤ 20 by decide), fun j hj => absurd hj (Nat.not_lt_zero j)⟩, fun u _ => rfl, fun u => ⟨(show (0 : Nat) ≤ 20 by decide), fun j hj => absurd hj (Nat.not_lt_zero j)⟩, fun m hm => absurd hm (Nat.not_lt_zero m), fun m _ => ⟨rfl, rfl⟩⟩, fun m hm => absurd hm (Nat.not_lt_zero m), fun u hu => absurd hu (Nat.not_lt_zero u), ⟨fun v hv => absurd hv List.not_mem_nil, rfl, fun j hj rd hrd => ⟨rfl, rfl, fun h => absurd h List.not_mem_nil, fun i m h => by cases h⟩⟩⟩
/-! combinators: what holds of x and of each change -/
section CMB
variable {P : gS → Prop} {x : gS} {f : Nat → gO × gS}
theorem c_U {u : Int32} (hu : g_nu x ≤ 6) (h : P x) (k : ∀ i, i < g_nu x → P (f i).2) : P (wU x u f).2 := by
  unfold wU
  split
  · exact h
  · rename_i i hi
    exact k i (gix_some (by omega) hi).1
theorem c_R {u : Int32} (hu : g_nr x ≤ 4) (h : P x) (k : ∀ i, i < g_nr x → P (f i).2) : P (wR x u f).2 := by
  unfold wR
  split
  · exact h
  · rename_i i hi
    exact k i (gix_some (by omega) hi).1
theorem c_M {u : Int32} (hu : g_nm x ≤ 60) (h : P x) (k : ∀ i, i < g_nm x → P (f i).2) : P (wM x u f).2 := by
  unfold wM
  split
  · exact h
  · rename_i i hi
    exact k i (gix_some (by omega) hi).1
theorem c_I {E : String} {n : Nat} {u : Int32} (hn : n < 1000) (h : P x) (k : ∀ i, i < n → P (f i).2) : P (wI x E n u f).2 := by
  unfold wI
  split
  · exact h
  · rename_i i hi
    exact k i (gix_some (by omega) hi).1
theorem c_C {u : Int32} (h : P x) (k : ∀ i, i < 128 → P (f i).2) : P (wC x u f).2 := by
  unfold wC
  split
  · exact h
  · rename_i i hi
    have := gcd_some hi
    exact k i (by omega)
theorem c_if {Q : Prop} {dd : Decidable Q} {a b : gO × gS} (h1 : Q → P a.2) (h2 : ¬ Q → P b.2) : P (if Q then a else b).2 := by
  split
  · rename_i q; exact h1 q
  · rename_i q; exact h2 q
end CMB
theorem inv_see {n : Nat} {x : gS} {i : Nat} (h : Inv n x) (hn : n < 512) : Inv (n + 1) (m_see x i) := by
  have hfull := h
  obtain ⟨h1, h2, h3, h4, h5, h6, h7⟩ := h
  refine ⟨?_, ?_, ?_, ?_, ?_, ?_, ?_⟩
  · obtain ⟨a1, a2, a3, a4, a5, a6, a7⟩ := h1
    unfold I1
    simp only [em_see]
    exact ⟨a1, a2, a3, by omega, a5, by omega, gup_le a7⟩
  · unfold I2
    simp only [em_see]
    exact h2
  · unfold I3
    simp only [em_see]
    exact h3
  · obtain ⟨d1, d2, d3, d4, d5⟩ := h4
    unfold I4
    simp only [em_see]
    exact ⟨d1, d2, d3, fun m hm => ⟨by have := (d4 m hm).1; omega, (d4 m hm).2⟩, d5⟩
  · exact h5.cg (by simp only [em_see]) (by simp only [em_see]) (by simp only [em_see]) (by simp only [em_see])
  · unfold I6
    simp only [em_see]
    exact h6
  · exact h7.cg (by simp only [em_see]) (by simp only [em_see]) (by simp only [em_see]) (by simp only [em_see]) (by simp only [em_see]) (by simp only [em_see]) (by simp only [em_see]) (by simp only [em_see])
theorem inv_dr {n : Nat} {x : gS} {i : Nat} {l : List Nat} (h : Inv n x) (hn : n < 512) (hi : i < g_nu x) (hl : okT l) : Inv (n + 1) (m_see (m_dr x i l) i) := by
  have hfull := h
  obtain ⟨h1, h2, h3, h4, h5, h6, h7⟩ := h
  refine ⟨?_, ?_, ?_, ?_, ?_, ?_, ?_⟩
  · obtain ⟨a1, a2, a3, a4, a5, a6, a7⟩ := h1
    unfold I1
    simp only [em_see, em_dr]
    exact ⟨a1, a2, a3, by omega, a5, by omega, gup_le a7⟩
  · unfold I2
    simp only [em_see, em_dr]
    exact h2
  · unfold I3
    simp only [em_see, em_dr]
    exact h3
  · obtain ⟨d1, d2, d3, d4, d5⟩ := h4
    unfold I4
    simp only [em_see, em_dr]
    refine ⟨fun u => ?_, fun u hu => ?_, d3, fun m hm => ⟨by have := (d4 m hm).1; omega, (d4 m hm).2⟩, d5⟩
    · unfold gup
      split
      · exact hl
      · exact d1 u
    · rw [gup_of (by omega)]
      exact d2 u hu
  · exact h5.cg (by simp only [em_see, em_dr]) (by simp only [em_see, em_dr]) (by simp only [em_see, em_dr]) (by simp only [em_see, em_dr])
  · unfold I6
    simp only [em_see, em_dr]
    exact h6
  · exact h7.cg (by simp only [em_see, em_dr]) (by simp only [em_see, em_dr]) (by simp only [em_see, em_dr]) (by simp only [em_see, em_dr]) (by simp only [em_see, em_dr]) (by simp only [em_see, em_dr]) (by simp only [em_see, em_dr]) (by simp only [em_see, em_dr])
theorem inv_rf {n : Nat} {x : gS} {r : Nat} (h : Inv n x) (hn : n < 512) (hr : r ≤ 64) : Inv (n + 1) (s_rf r x) := by
  have hfull := h
  obtain ⟨h1, h2, h3, h4, h5, h6, h7⟩ := h
  refine ⟨?_, ?_, ?_, ?_, ?_, ?_, ?_⟩
  · obtain ⟨a1, a2, a3, a4, a5, a6, a7⟩ := h1
    unfold I1
    simp only [e_rf]
    exact ⟨a1, a2, a3, by omega, hr, by omega, a7⟩
  · unfold I2
    simp only [e_rf]
    exact h2
  · unfold I3
    simp only [e_rf]
    exact h3
  · obtain ⟨d1, d2, d3, d4, d5⟩ := h4
    unfold I4
    simp only [e_rf]
    exact ⟨d1, d2, d3, fun m hm => ⟨by have := (d4 m hm).1; omega, (d4 m hm).2⟩, d5⟩
  · exact h5.cg (by simp only [e_rf]) (by simp only [e_rf]) (by simp only [e_rf]) (by simp only [e_rf])
  · unfold I6
    simp only [e_rf]
    exact h6
  · exact h7.cg (by simp only [e_rf]) (by simp only [e_rf]) (by simp only [e_rf]) (by simp only [e_rf]) (by simp only [e_rf]) (by simp only [e_rf]) (by simp only [e_rf]) (by simp only [e_rf])
theorem inv_reg {n : Nat} {x : gS} (h : Inv n x) (hn : n < 512)  (hu : g_nu x < 6) : Inv (n + 1) (m_note (s_nu (g_nu x + 1) (s_tok (gup (g_tok x) (g_nu x) 1082130432) (s_seen (gup (g_seen x) (g_nu x) (g_now x)) x))) (114, nI (g_nu x), -1, -1, 0)) := by
  have hfull := h
  obtain ⟨h1, h2, h3, h4, h5, h6, h7⟩ := h
  refine ⟨?_, ?_, ?_, ?_, ?_, ?_, ?_⟩
  · obtain ⟨a1, a2, a3, a4, a5, a6, a7⟩ := h1
    unfold I1
    simp only [em_note, e_nu, e_tok, e_seen]
    exact ⟨by omega, a2, a3, by omega, a5, by rw [List.length_append, List.length_singleton]; omega, gup_le a7⟩
  · unfold I2
    simp only [em_note, e_nu, e_tok, e_seen]
    exact ⟨fun r => ⟨(h2.1 r).1, fun u hu => by have := (h2.1 r).2 u hu; omega⟩, h2.2⟩
  · unfold I3
    simp only [em_note, e_nu, e_tok, e_seen]
    exact ⟨fun m hm => ⟨by have := (h3.1 m hm).1; omega, (h3.1 m hm).2⟩, h3.2⟩
  · obtain ⟨d1, d2, d3, d4, d5⟩ := h4
    unfold I4
    simp only [em_note, e_nu, e_tok, e_seen]
    exact ⟨d1, fun u hu => d2 u (by omega), d3, fun m hm => ⟨by have := (d4 m hm).1; omega, (d4 m hm).2⟩, d5⟩
  · exact h5.cg (by simp only [em_note, e_nu, e_tok, e_seen]) (by simp only [em_note, e_nu, e_tok, e_seen]) (by simp only [em_note, e_nu, e_tok, e_seen]) (by simp only [em_note, e_nu, e_tok, e_seen])
  · unfold I6
    simp only [em_note, e_nu, e_tok, e_seen]
    intro u hu
    by_cases hun : u = g_nu x
    · rw [hun, gup_at]
      exact ⟨256, Nat.le_refl _, tk_256⟩
    · rw [gup_of hun]
      exact h6 u (by omega)
  · obtain ⟨e1, e2, e3⟩ := h7
    unfold I7 rpI
    simp only [em_note, e_nu, e_tok, e_seen]
    refine ⟨fun v hv => ?_, ?_, fun j hj rd hrd => ?_⟩
    · rcases List.mem_append.mp hv with q | q
      · exact e1 v q
      · rw [List.mem_singleton.mp q]
        exact ⟨Or.inl rfl, 0, by decide, rfl⟩
    · rw [List.countP_append, e2]
      rfl
    · rw [rpR_m1 (by omega)]
      exact e3 j hj rd hrd
theorem inv_pass {n : Nat} {x : gS} {s : Nat} (h : Inv n x) (hn : n < 512) (hs1 : 1 ≤ s) (hs : s ≤ 600) : Inv (n + 1) (m_note (s_now (g_now x + s) (s_tok (fun u => if u < g_nu x then clsT (g_tok x u) (gainV s (g_rf x)) else g_tok x u) x)) (112, -1, -1, -1, 0)) := by
  have hfull := h
  obtain ⟨h1, h2, h3, h4, h5, h6, h7⟩ := h
  refine ⟨?_, ?_, ?_, ?_, ?_, ?_, ?_⟩
  · obtain ⟨a1, a2, a3, a4, a5, a6, a7⟩ := h1
    unfold I1
    simp only [em_note, e_now, e_tok]
    exact ⟨a1, a2, a3, by omega, a5, by rw [List.length_append, List.length_singleton]; omega, fun u => by have := a7 u; omega⟩
  · unfold I2
    simp only [em_note, e_now, e_tok]
    exact h2
  · unfold I3
    simp only [em_note, e_now, e_tok]
    exact ⟨fun m hm => ⟨(h3.1 m hm).1, (h3.1 m hm).2.1, by have := (h3.1 m hm).2.2.1; omega, (h3.1 m hm).2.2.2⟩, h3.2⟩
  · obtain ⟨d1, d2, d3, d4, d5⟩ := h4
    unfold I4
    simp only [em_note, e_now, e_tok]
    exact ⟨d1, d2, d3, fun m hm => ⟨by have := (d4 m hm).1; omega, (d4 m hm).2⟩, d5⟩
  · exact h5.cg (by simp only [em_note, e_now, e_tok]) (by simp only [em_note, e_now, e_tok]) (by simp only [em_note, e_now, e_tok]) (by simp only [em_note, e_now, e_tok])
  · unfold I6
    simp only [em_note, e_now, e_tok]
    intro u hu
    rw [if_pos hu]
    obtain ⟨k, k1, k2⟩ := h6 u hu
    have hm : s * g_rf x ≤ 600 * 64 := Nat.mul_le_mul hs h1.2.2.2.2.1
    rw [k2, gain_tk hs1 hs h1.2.2.2.2.1, cls_tk k1 (by omega)]
    exact ⟨_, by omega, rfl⟩
  · obtain ⟨e1, e2, e3⟩ := h7
    unfold I7 rpI
    simp only [em_note, e_now, e_tok]
    refine ⟨fun v hv => ?_, ?_, fun j hj rd hrd => ?_⟩
    · rcases List.mem_append.mp hv with q | q
      · exact e1 v q
      · rw [List.mem_singleton.mp q]
        exact ⟨Or.inl rfl, 8, by decide, rfl⟩
    · rw [List.countP_append, e2]
      rfl
    · rw [rpR_m1 (by omega)]
      exact e3 j hj rd hrd
theorem inv_open {n : Nat} {x : gS} {i : Nat} (h : Inv n x) (hn : n < 512) (hi : i < g_nu x) (hr : g_nr x < 4) : Inv (n + 1) (m_see (m_note (s_nr (g_nr x + 1) (m_join x i (g_nr x))) (111, nI i, nI (g_nr x), -1, 0)) i) := by
  have hfull := h
  obtain ⟨h1, h2, h3, h4, h5, h6, h7⟩ := h
  refine ⟨?_, ?_, ?_, ?_, ?_, ?_, ?_⟩
  · obtain ⟨a1, a2, a3, a4, a5, a6, a7⟩ := h1
    unfold I1
    simp only [em_see, em_note, e_nr, em_join]
    exact ⟨a1, by omega, a3, by omega, a5, by rw [List.length_append, List.length_singleton]; omega, gup_le a7⟩
  · have hm : i ∉ g_mem x (g_nr x) := by rw [h2.2 _ (Nat.le_refl _)]; exact List.not_mem_nil
    unfold I2
    simp only [em_see, em_note, e_nr, em_join]
    refine ⟨fun r => ?_, fun r hr => ?_⟩
    · by_cases hrj : r = g_nr x
      · rw [hrj, gup_at]
        refine ⟨List.nodup_append.mpr ⟨(h2.1 (g_nr x)).1, by simp, fun a ha b hb => ?_⟩, fun u hu => ?_⟩
        · rw [List.mem_singleton.mp hb]
          exact fun z => hm (z ▸ ha)
        · rcases List.mem_append.mp hu with q | q
          · exact (h2.1 (g_nr x)).2 u q
          · rw [List.mem_singleton.mp q]
            exact hi
      · rw [gup_of hrj]
        exact h2.1 r
    · rw [gup_of (by omega)]
      exact h2.2 r (by omega)
  · unfold I3
    simp only [em_see, em_note, e_nr, em_join]
    refine ⟨fun m hm => ⟨(h3.1 m hm).1, by have := (h3.1 m hm).2.1; omega, (h3.1 m hm).2.2⟩, h3.2.1, fun r u => ?_⟩
    by_cases hrj : r = (g_nr x)
    · rw [hrj, gup_at]
      unfold gup
      split
      · exact Nat.le_refl _
      · exact h3.2.2 (g_nr x) u
    · rw [gup_of hrj]
      exact h3.2.2 r u
  · obtain ⟨d1, d2, d3, d4, d5⟩ := h4
    unfold I4
    simp only [em_see, em_note, e_nr, em_join]
    exact ⟨d1, d2, d3, fun m hm => ⟨by have := (d4 m hm).1; omega, (d4 m hm).2⟩, d5⟩
  · exact h5.cg (by simp only [em_see, em_note, e_nr, em_join]) (by simp only [em_see, em_note, e_nr, em_join]) (by simp only [em_see, em_note, e_nr, em_join]) (by simp only [em_see, em_note, e_nr, em_join])
  · unfold I6
    simp only [em_see, em_note, e_nr, em_join]
    exact h6
  · obtain ⟨e1, e2, e3⟩ := h7
    have hi6 : i < 6 := Nat.lt_of_lt_of_le hi h1.1
    unfold I7 rpI
    simp only [em_see, em_note, e_nr, em_join]
    refine ⟨fun v hv => ?_, ?_, fun j hj rd hrd => ?_⟩
    · rcases List.mem_append.mp hv with q | q
      · exact e1 v q
      · rw [List.mem_singleton.mp q]
        exact ⟨Or.inr ⟨⟨i, hi6, rfl⟩, (show (0 : Nat) < 64 by decide), Or.inl rfl⟩, 1, by decide, rfl⟩
    · rw [List.countP_append, e2]
      rfl
    · obtain ⟨r1, r2, r3, r4⟩ := e3 j hj rd hrd
      by_cases hjr : j = g_nr x
      · rw [hjr] at r1 r2 r3 r4 ⊢
        rw [rpR_in]
        have w : rpS rd (111, nI i, nI (g_nr x), -1, 0) (rpR (g_log x) rd (g_nr x)) = ((rpR (g_log x) rd (g_nr x)).1, (rpR (g_log x) rd (g_nr x)).2.1 ||| 2 ^ (nI i).toNatClampNeg, if (nI i).toNatClampNeg = rd then (rpR (g_log x) rd (g_nr x)).1 else (rpR (g_log x) rd (g_nr x)).2.2.1, (rpR (g_log x) rd (g_nr x)).2.2.2) := rfl
        rw [w, ncl (by omega)]
        simp only [gup_at]
        refine ⟨r1, by rw [r2, bmk_sn], fun hm => ?_, r4⟩
        show (if i = rd then _ else _) = _
        by_cases hir : i = rd
        · subst hir
          rw [if_pos rfl, gup_at]
          exact r1
        · rw [if_neg hir, gup_of (fun z => hir z.symm)]
          exact r3 ((List.mem_append.mp hm).resolve_right (fun z => hir (List.mem_singleton.mp z).symm))
      · rw [rpR_out hjr (by omega) (by omega)]
        simp only [gup_of hjr]
        exact ⟨r1, r2, r3, r4⟩
theorem inv_join {n : Nat} {x : gS} {i j0 : Nat} (h : Inv n x) (hn : n < 512) (hi : i < g_nu x) (hr : j0 < g_nr x) (hm : i ∉ g_mem x j0) : Inv (n + 1) (m_see (m_note (m_join x i j0) (106, nI i, nI j0, -1, 0)) i) := by
  have hfull := h
  obtain ⟨h1, h2, h3, h4, h5, h6, h7⟩ := h
  refine ⟨?_, ?_, ?_, ?_, ?_, ?_, ?_⟩
  · obtain ⟨a1, a2, a3, a4, a5, a6, a7⟩ := h1
    unfold I1
    simp only [em_see, em_note, em_join]
    exact ⟨a1, a2, a3, by omega, a5, by rw [List.length_append, List.length_singleton]; omega, gup_le a7⟩
  · unfold I2
    simp only [em_see, em_note, em_join]
    refine ⟨fun r => ?_, fun r hr => ?_⟩
    · by_cases hrj : r = j0
      · rw [hrj, gup_at]
        refine ⟨List.nodup_append.mpr ⟨(h2.1 j0).1, by simp, fun a ha b hb => ?_⟩, fun u hu => ?_⟩
        · rw [List.mem_singleton.mp hb]
          exact fun z => hm (z ▸ ha)
        · rcases List.mem_append.mp hu with q | q
          · exact (h2.1 j0).2 u q
          · rw [List.mem_singleton.mp q]
            exact hi
      · rw [gup_of hrj]
        exact h2.1 r
    · rw [gup_of (by omega)]
      exact h2.2 r (by omega)
  · unfold I3
    simp only [em_see, em_note, em_join]
    refine ⟨h3.1, h3.2.1, fun r u => ?_⟩
    by_cases hrj : r = j0
    · rw [hrj, gup_at]
      unfold gup
      split
      · exact Nat.le_refl _
      · exact h3.2.2 j0 u
    · rw [gup_of hrj]
      exact h3.2.2 r u
  · obtain ⟨d1, d2, d3, d4, d5⟩ := h4
    unfold I4
    simp only [em_see, em_note, em_join]
    exact ⟨d1, d2, d3, fun m hm => ⟨by have := (d4 m hm).1; omega, (d4 m hm).2⟩, d5⟩
  · exact h5.cg (by simp only [em_see, em_note, em_join]) (by simp only [em_see, em_note, em_join]) (by simp only [em_see, em_note, em_join]) (by simp only [em_see, em_note, em_join])
  · unfold I6
    simp only [em_see, em_note, em_join]
    exact h6
  · obtain ⟨e1, e2, e3⟩ := h7
    have hi6 : i < 6 := Nat.lt_of_lt_of_le hi h1.1
    have hr4 := h1.2.1
    unfold I7 rpI
    simp only [em_see, em_note, em_join]
    refine ⟨fun v hv => ?_, ?_, fun j hj rd hrd => ?_⟩
    · rcases List.mem_append.mp hv with q | q
      · exact e1 v q
      · rw [List.mem_singleton.mp q]
        exact ⟨Or.inr ⟨⟨i, hi6, rfl⟩, (show (0 : Nat) < 64 by decide), Or.inr (Or.inl rfl)⟩, 2, by decide, rfl⟩
    · rw [List.countP_append, e2]
      rfl
    · obtain ⟨r1, r2, r3, r4⟩ := e3 j hj rd hrd
      by_cases hjr : j = j0
      · subst hjr
        rw [rpR_in]
        have w : rpS rd (106, nI i, nI j, -1, 0) (rpR (g_log x) rd j) = ((rpR (g_log x) rd j).1, (rpR (g_log x) rd j).2.1 ||| 2 ^ (nI i).toNatClampNeg, if (nI i).toNatClampNeg = rd then (rpR (g_log x) rd j).1 else (rpR (g_log x) rd j).2.2.1, (rpR (g_log x) rd j).2.2.2) := rfl
        rw [w, ncl (by omega)]
        simp only [gup_at]
        refine ⟨r1, by rw [r2, bmk_sn], fun hm => ?_, r4⟩
        show (if i = rd then _ else _) = _
        by_cases hir : i = rd
        · subst hir
          rw [if_pos rfl, gup_at]
          exact r1
        · rw [if_neg hir, gup_of (fun z => hir z.symm)]
          exact r3 ((List.mem_append.mp hm).resolve_right (fun z => hir (List.mem_singleton.mp z).symm))
      · rw [rpR_out hjr (by omega) (by omega)]
        simp only [gup_of hjr]
        exact ⟨r1, r2, r3, r4⟩
theorem inv_leave {n : Nat} {x : gS} {i j0 : Nat} (h : Inv n x) (hn : n < 512) (hi : i < g_nu x) (hr : j0 < g_nr x) : Inv (n + 1) (m_see (m_note (s_mem (gup (g_mem x) j0 ((g_mem x j0).erase i)) x) (108, nI i, nI j0, -1, 0)) i) := by
  have hfull := h
  obtain ⟨h1, h2, h3, h4, h5, h6, h7⟩ := h
  refine ⟨?_, ?_, ?_, ?_, ?_, ?_, ?_⟩
  · obtain ⟨a1, a2, a3, a4, a5, a6, a7⟩ := h1
    unfold I1
    simp only [em_see, em_note, e_mem]
    exact ⟨a1, a2, a3, by omega, a5, by rw [List.length_append, List.length_singleton]; omega, gup_le a7⟩
  · unfold I2
    simp only [em_see, em_note, e_mem]
    refine ⟨fun r => ?_, fun r hr9 => ?_⟩
    · by_cases hrj : r = j0
      · rw [hrj, gup_at]
        exact ⟨(h2.1 j0).1.sublist List.erase_sublist, fun u hu => (h2.1 j0).2 u (List.mem_of_mem_erase hu)⟩
      · rw [gup_of hrj]
        exact h2.1 r
    · rw [gup_of (by omega)]
      exact h2.2 r hr9
  · unfold I3
    simp only [em_see, em_note, e_mem]
    exact h3
  · obtain ⟨d1, d2, d3, d4, d5⟩ := h4
    unfold I4
    simp only [em_see, em_note, e_mem]
    exact ⟨d1, d2, d3, fun m hm => ⟨by have := (d4 m hm).1; omega, (d4 m hm).2⟩, d5⟩
  · exact h5.cg (by simp only [em_see, em_note, e_mem]) (by simp only [em_see, em_note, e_mem]) (by simp only [em_see, em_note, e_mem]) (by simp only [em_see, em_note, e_mem])
  · unfold I6
    simp only [em_see, em_note, e_mem]
    exact h6
  · obtain ⟨e1, e2, e3⟩ := h7
    have hi6 : i < 6 := Nat.lt_of_lt_of_le hi h1.1
    have hr4 := h1.2.1
    unfold I7 rpI
    simp only [em_see, em_note, e_mem]
    refine ⟨fun v hv => ?_, ?_, fun j hj rd hrd => ?_⟩
    · rcases List.mem_append.mp hv with q | q
      · exact e1 v q
      · rw [List.mem_singleton.mp q]
        exact ⟨Or.inr ⟨⟨i, hi6, rfl⟩, (show (0 : Nat) < 64 by decide), Or.inr (Or.inr (Or.inl rfl))⟩, 3, by decide, rfl⟩
    · rw [List.countP_append, e2]
      rfl
    · obtain ⟨r1, r2, r3, r4⟩ := e3 j hj rd hrd
      by_cases hjr : j = j0
      · subst hjr
        rw [rpR_in]
        have w : rpS rd (108, nI i, nI j, -1, 0) (rpR (g_log x) rd j) = ((rpR (g_log x) rd j).1, (rpR (g_log x) rd j).2.1 &&& (63 ^^^ 2 ^ (nI i).toNatClampNeg), (rpR (g_log x) rd j).2.2.1, (rpR (g_log x) rd j).2.2.2) := rfl
        rw [w, ncl (by omega)]
        simp only [gup_at]
        refine ⟨r1, ?_, fun hm => r3 (List.mem_of_mem_erase hm), r4⟩
        rw [r2, bmk_er (h2.1 j).1 (fun u hu => Nat.lt_of_lt_of_le ((h2.1 j).2 u hu) h1.1) hi6]
      · rw [rpR_out hjr (by omega) (by omega)]
        simp only [gup_of hjr]
        exact ⟨r1, r2, r3, r4⟩
theorem inv_read {n : Nat} {x : gS} {i j0 k : Nat} (h : Inv n x) (hn : n < 512) (hi : i < g_nu x) (hr : j0 < g_nr x) (hk : k ≤ (g_rms x j0).length) : Inv (n + 1) (m_read x j0 i k) := by
  have hfull := h
  obtain ⟨h1, h2, h3, h4, h5, h6, h7⟩ := h
  refine ⟨?_, ?_, ?_, ?_, ?_, ?_, ?_⟩
  · obtain ⟨a1, a2, a3, a4, a5, a6, a7⟩ := h1
    unfold I1
    simp only [m_read, em_see, em_note, em_mark]
    exact ⟨a1, a2, a3, by omega, a5, by rw [List.length_append, List.length_singleton]; omega, gup_le a7⟩
  · unfold I2
    simp only [m_read, em_see, em_note, em_mark]
    exact h2
  · unfold I3
    simp only [m_read, em_see, em_note, em_mark]
    refine ⟨h3.1, h3.2.1, fun r u => ?_⟩
    by_cases hrj : r = j0
    · rw [hrj, gup_at]
      unfold gup
      split
      · exact hk
      · exact h3.2.2 j0 u
    · rw [gup_of hrj]
      exact h3.2.2 r u
  · obtain ⟨d1, d2, d3, d4, d5⟩ := h4
    unfold I4
    simp only [m_read, em_see, em_note, em_mark]
    exact ⟨d1, d2, d3, fun m hm => ⟨by have := (d4 m hm).1; omega, (d4 m hm).2⟩, d5⟩
  · exact h5.cg (by simp only [m_read, em_see, em_note, em_mark]) (by simp only [m_read, em_see, em_note, em_mark]) (by simp only [m_read, em_see, em_note, em_mark]) (by simp only [m_read, em_see, em_note, em_mark])
  · unfold I6
    simp only [m_read, em_see, em_note, em_mark]
    exact h6
  · obtain ⟨e1, e2, e3⟩ := h7
    have hi6 : i < 6 := Nat.lt_of_lt_of_le hi h1.1
    have hr4 := h1.2.1
    have hrl : (g_rms x j0).length ≤ g_nm x := ((hfull.i (by omega)).2.2.1 j0).1
    have hk60 : k ≤ 60 := by have := h1.2.2.1; omega
    have hk1 : nI k - nI 1 + nI 1 = nI k := by
      cases k with
      | zero => decide +kernel
      | succ k => rw [nsub (by omega), nI_add]; rfl
    unfold I7 rpI
    simp only [m_read, em_see, em_note, em_mark]
    refine ⟨fun v hv => ?_, ?_, fun j hj rd hrd => ?_⟩
    · rcases List.mem_append.mp hv with q | q
      · exact e1 v q
      · rw [List.mem_singleton.mp q]
        exact ⟨Or.inr ⟨⟨i, hi6, rfl⟩, (show (0 : Nat) < 64 by decide), Or.inr (Or.inr (Or.inr (Or.inr ⟨rfl, k, hk60, hk1⟩)))⟩, 7, by decide, rfl⟩
    · rw [List.countP_append, e2]
      rfl
    · obtain ⟨r1, r2, r3, r4⟩ := e3 j hj rd hrd
      by_cases hjr : j = j0
      · subst hjr
        rw [rpR_in]
        have w : rpS rd (109, nI i, nI j, nI k - nI 1, 0) (rpR (g_log x) rd j) = ((rpR (g_log x) rd j).1, (rpR (g_log x) rd j).2.1, if (nI i).toNatClampNeg = rd then (nI k - nI 1 + nI 1).toNatClampNeg else (rpR (g_log x) rd j).2.2.1, (rpR (g_log x) rd j).2.2.2) := rfl
        rw [w, ncl (by omega), hk1, ncl (by omega)]
        simp only [gup_at]
        refine ⟨r1, r2, fun hm => ?_, r4⟩
        show (if i = rd then _ else _) = _
        by_cases hir : i = rd
        · subst hir
          rw [if_pos rfl, gup_at]
        · rw [if_neg hir, gup_of (fun z => hir z.symm)]
          exact r3 hm
      · rw [rpR_out hjr (by omega) (by omega)]
        simp only [gup_of hjr]
        exact ⟨r1, r2, r3, r4⟩
theorem inv_gone {n : Nat} {x : gS} {i k : Nat} (h : Inv n x) (hn : n < 512) (hi : i < g_nu x) (hk : k < g_nm x) : Inv (n + 1) (m_see (m_note (m_gone x k) (120, nI i, nI (g_rm x k), nI (g_rk x k), 0)) i) := by
  have hfull := h
  obtain ⟨h1, h2, h3, h4, h5, h6, h7⟩ := h
  refine ⟨?_, ?_, ?_, ?_, ?_, ?_, ?_⟩
  · obtain ⟨a1, a2, a3, a4, a5, a6, a7⟩ := h1
    unfold I1
    simp only [em_see, em_note, em_gone]
    exact ⟨a1, a2, a3, by omega, a5, by rw [List.length_append, List.length_singleton]; omega, gup_le a7⟩
  · unfold I2
    simp only [em_see, em_note, em_gone]
    exact h2
  · unfold I3
    simp only [em_see, em_note, em_gone]
    exact h3
  · obtain ⟨d1, d2, d3, d4, d5⟩ := h4
    unfold I4
    simp only [em_see, em_note, em_gone]
    refine ⟨d1, d2, fun m => ?_, fun m hm => ?_, fun m hm => ?_⟩
    · unfold gup
      split
      · exact ⟨by decide, fun j hj => absurd hj (Nat.not_lt_zero j)⟩
      · exact d3 m
    · refine ⟨by have := (d4 m hm).1; omega, ?_⟩
      by_cases hmk : m = k
      · rw [hmk, gup_at, gup_at]
        refine ⟨by decide, fun u hu => ⟨fun z => (by rw [Nat.zero_testBit] at z; cases z), fun z => ?_⟩⟩
        obtain ⟨q, q1, -⟩ := z.2.2
        exact absurd q1 (Nat.not_lt_zero _)
      · rw [gup_of hmk, gup_of hmk]
        exact (d4 m hm).2
    · rw [gup_of (by omega)]
      exact d5 m hm
  · exact h5.cg (by simp only [em_see, em_note, em_gone]) (by simp only [em_see, em_note, em_gone]) (by simp only [em_see, em_note, em_gone]) (by simp only [em_see, em_note, em_gone])
  · unfold I6
    simp only [em_see, em_note, em_gone]
    exact h6
  · obtain ⟨e1, e2, e3⟩ := h7
    have hi6 : i < 6 := Nat.lt_of_lt_of_le hi h1.1
    have hir := (hfull.v hn).rk k hk
    have hgt := flt_get (x := x) (r := g_rm x k) (m := k) rfl (g_nm x) hk
    have hrl := rk_len hir
    rw [← hrl, ← (hfull.v hn).rms] at hgt
    have hrk60 : g_rk x k < 60 := by
      have a := (List.getElem?_eq_some_iff.mp hgt).1
      have b := ((hfull.i (by omega)).2.2.1 (g_rm x k)).1
      have c := h1.2.2.1
      omega
    have hnd : ∀ i m, (g_rms x (g_rm x k))[i]? = some m → (i = g_rk x k ↔ m = k) := fun i m hm => by
      have nd : (g_rms x (g_rm x k)).Nodup := by
        rw [h3.2.1]
        exact List.nodup_range.filter _
      obtain ⟨a1, a2⟩ := List.getElem?_eq_some_iff.mp hm
      obtain ⟨b1, b2⟩ := List.getElem?_eq_some_iff.mp hgt
      constructor
      · intro z
        subst z
        exact a2.symm.trans b2
      · intro z
        subst z
        exact (List.getElem_inj nd).mp (a2.trans b2.symm)
    have hrr := (h3.1 k hk).2.1
    have hr4 := h1.2.1
    unfold I7 rpI
    simp only [em_see, em_note, em_gone]
    refine ⟨fun v hv => ?_, ?_, fun j hj rd hrd => ?_⟩
    · rcases List.mem_append.mp hv with q | q
      · exact e1 v q
      · rw [List.mem_singleton.mp q]
        exact ⟨Or.inr ⟨⟨i, hi6, rfl⟩, (show (0 : Nat) < 64 by decide), Or.inr (Or.inr (Or.inr (Or.inl ⟨Or.inr (Or.inr rfl), g_rk x k, hrk60, rfl⟩)))⟩, 6, by decide, rfl⟩
    · rw [List.countP_append, e2]
      rfl
    · obtain ⟨r1, r2, r3, r4⟩ := e3 j hj rd hrd
      by_cases hjr : j = g_rm x k
      · rw [hjr] at r1 r2 r3 r4 ⊢
        rw [rpR_in]
        have w : rpS rd (120, nI i, nI (g_rm x k), nI (g_rk x k), 0) (rpR (g_log x) rd (g_rm x k)) = if (nI (g_rk x k)).toNatClampNeg < (rpR (g_log x) rd (g_rm x k)).1 then ((rpR (g_log x) rd (g_rm x k)).1, (rpR (g_log x) rd (g_rm x k)).2.1, (rpR (g_log x) rd (g_rm x k)).2.2.1, (rpR (g_log x) rd (g_rm x k)).2.2.2.1, (rpR (g_log x) rd (g_rm x k)).2.2.2.2.1, gup (rpR (g_log x) rd (g_rm x k)).2.2.2.2.2 (nI (g_rk x k)).toNatClampNeg true) else rpR (g_log x) rd (g_rm x k) := rfl
        have hlt := (List.getElem?_eq_some_iff.mp hgt).1
        rw [w, ncl (by omega), if_pos (by rw [r1]; exact hlt)]
        refine ⟨r1, r2, r3, fun q m hq => ?_⟩
        obtain ⟨t1, t2, t3⟩ := r4 q m hq
        have hq9 := hnd q m hq
        refine ⟨t1, ?_, fun hg => ?_⟩
        · show gup (rpR (g_log x) rd (g_rm x k)).2.2.2.2.2 (g_rk x k) true q = _
          by_cases hqk : q = g_rk x k
          · rw [hqk, gup_at, hq9.mp hqk, gup_at]
          · rw [gup_of hqk, gup_of (fun z => hqk (hq9.mpr z))]
            exact t2
        · by_cases hmk : m = k
          · rw [hmk, gup_at] at hg
            cases hg
          · rw [gup_of hmk] at hg ⊢
            exact t3 hg
      · rw [rpR_out hjr (by omega) (by omega)]
        refine ⟨r1, r2, r3, fun q m hq => ?_⟩
        obtain ⟨t1, t2, t3⟩ := r4 q m hq
        have hmk : m ≠ k := fun z => by
          have hq2 := List.mem_of_getElem? hq
          rw [h3.2.1, List.mem_filter, z] at hq2
          exact hjr (beq_iff_eq.mp hq2.2).symm
        rw [gup_of hmk, gup_of hmk]
        exact ⟨t1, t2, t3⟩
theorem inv_edit {n : Nat} {x : gS} {i k : Nat} (h : Inv n x) (hn : n < 512) (hi : i < g_nu x) (hk : k < g_nm x) (hau : g_au x k = i) (hc : ¬ Op.cmpValue (FP.fcmp (g_tok x i) 1056964608) .g < 0) : Inv (n + 1) (m_see (m_note (m_edit x i k) (101, nI i, nI (g_rm x k), nI (g_rk x k), lmk (g_dr x i) (g_dr x i).length)) i) := by
  have hfull := h
  obtain ⟨h1, h2, h3, h4, h5, h6, h7⟩ := h
  refine ⟨?_, ?_, ?_, ?_, ?_, ?_, ?_⟩
  · obtain ⟨a1, a2, a3, a4, a5, a6, a7⟩ := h1
    unfold I1
    simp only [em_see, em_note, em_edit]
    exact ⟨a1, a2, a3, by omega, a5, by rw [List.length_append, List.length_singleton]; omega, gup_le a7⟩
  · unfold I2
    simp only [em_see, em_note, em_edit]
    exact h2
  · unfold I3
    simp only [em_see, em_note, em_edit]
    exact h3
  · obtain ⟨d1, d2, d3, d4, d5⟩ := h4
    have hme : ∀ v ∈ g_mem x (g_rm x k), v < 6 := fun v hv => Nat.lt_of_lt_of_le ((h2.1 _).2 v hv) h1.1
    have ha6 : g_au x k < 6 := by rw [hau]; exact Nat.lt_of_lt_of_le hi h1.1
    unfold I4
    simp only [em_see, em_note, em_edit]
    refine ⟨fun u => ?_, fun u hu => ?_, fun m => ?_, fun m hm => ?_, fun m hm => ?_⟩
    · unfold gup
      split
      · exact ⟨by decide, fun j hj => absurd hj (Nat.not_lt_zero j)⟩
      · exact d1 u
    · rw [gup_of (by omega)]
      exact d2 u hu
    · unfold gup
      split
      · exact d1 i
      · exact d3 m
    · by_cases hmk : m = k
      · rw [hmk, gup_at, gup_at, gup_at, gup_at]
        exact ⟨by have := (d4 k hk).1; omega, mmX_lt hme ha6, fun u hu => mmX_tb hme ha6 hu⟩
      · rw [gup_of hmk, gup_of hmk, gup_of hmk, gup_of hmk]
        exact ⟨by have := (d4 m hm).1; omega, (d4 m hm).2⟩
    · rw [gup_of (by omega)]
      exact d5 m hm
  · exact h5.cg (by simp only [em_see, em_note, em_edit]) (by simp only [em_see, em_note, em_edit]) (by simp only [em_see, em_note, em_edit]) (by simp only [em_see, em_note, em_edit])
  · unfold I6
    simp only [em_see, em_note, em_edit]
    intro u hu
    by_cases hui : u = i
    · rw [hui, gup_at]
      obtain ⟨k9, k1, k2⟩ := h6 i hi
      rw [k2] at hc ⊢
      exact ⟨k9 - 32, by omega, (tk_h k9 (by omega) hc).2⟩
    · rw [gup_of hui]
      exact h6 u hu
  · obtain ⟨e1, e2, e3⟩ := h7
    have hi6 : i < 6 := Nat.lt_of_lt_of_le hi h1.1
    have hir := (hfull.v hn).rk k hk
    have hgt := flt_get (x := x) (r := g_rm x k) (m := k) rfl (g_nm x) hk
    have hrl := rk_len hir
    rw [← hrl, ← (hfull.v hn).rms] at hgt
    have hrk60 : g_rk x k < 60 := by
      have a := (List.getElem?_eq_some_iff.mp hgt).1
      have b := ((hfull.i (by omega)).2.2.1 (g_rm x k)).1
      have c := h1.2.2.1
      omega
    have hnd : ∀ i m, (g_rms x (g_rm x k))[i]? = some m → (i = g_rk x k ↔ m = k) := fun i m hm => by
      have nd : (g_rms x (g_rm x k)).Nodup := by
        rw [h3.2.1]
        exact List.nodup_range.filter _
      obtain ⟨a1, a2⟩ := List.getElem?_eq_some_iff.mp hm
      obtain ⟨b1, b2⟩ := List.getElem?_eq_some_iff.mp hgt
      constructor
      · intro z
        subst z
        exact a2.symm.trans b2
      · intro z
        subst z
        exact (List.getElem_inj nd).mp (a2.trans b2.symm)
    have hrr := (h3.1 k hk).2.1
    have hr4 := h1.2.1
    unfold I7 rpI
    simp only [em_see, em_note, em_edit]
    refine ⟨fun v hv => ?_, ?_, fun j hj rd hrd => ?_⟩
    · rcases List.mem_append.mp hv with q | q
      · exact e1 v q
      · rw [List.mem_singleton.mp q]
        exact ⟨Or.inr ⟨⟨i, hi6, rfl⟩, lmk_lt _ _, Or.inr (Or.inr (Or.inr (Or.inl ⟨Or.inr (Or.inl rfl), g_rk x k, hrk60, rfl⟩)))⟩, 5, by decide, rfl⟩
    · rw [List.countP_append, e2]
      rfl
    · obtain ⟨r1, r2, r3, r4⟩ := e3 j hj rd hrd
      by_cases hjr : j = g_rm x k
      · rw [hjr] at r1 r2 r3 r4 ⊢
        rw [rpR_in]
        have w : rpS rd (101, nI i, nI (g_rm x k), nI (g_rk x k), lmk (g_dr x i) (g_dr x i).length) (rpR (g_log x) rd (g_rm x k)) = if (nI (g_rk x k)).toNatClampNeg < (rpR (g_log x) rd (g_rm x k)).1 then ((rpR (g_log x) rd (g_rm x k)).1, (rpR (g_log x) rd (g_rm x k)).2.1, (rpR (g_log x) rd (g_rm x k)).2.2.1, (rpR (g_log x) rd (g_rm x k)).2.2.2.1, gup (rpR (g_log x) rd (g_rm x k)).2.2.2.2.1 (nI (g_rk x k)).toNatClampNeg ((lmk (g_dr x i) (g_dr x i).length &&& (rpR (g_log x) rd (g_rm x k)).2.1) &&& (63 ^^^ 2 ^ (nI i).toNatClampNeg)), (rpR (g_log x) rd (g_rm x k)).2.2.2.2.2) else rpR (g_log x) rd (g_rm x k) := rfl
        have hlt := (List.getElem?_eq_some_iff.mp hgt).1
        rw [w, ncl (by omega), ncl (by omega), if_pos (by rw [r1]; exact hlt)]
        refine ⟨r1, r2, r3, fun q m hq => ?_⟩
        obtain ⟨t1, t2, t3⟩ := r4 q m hq
        have hq9 := hnd q m hq
        refine ⟨t1, t2, fun hg => ?_⟩
        show gup (rpR (g_log x) rd (g_rm x k)).2.2.2.2.1 (g_rk x k) _ q = _
        by_cases hqk : q = g_rk x k
        · rw [hqk, gup_at, hq9.mp hqk, gup_at, hau]
          unfold mmX
          rw [r2]
        · rw [gup_of hqk, gup_of (fun z => hqk (hq9.mpr z))]
          exact t3 hg
      · rw [rpR_out hjr (by omega) (by omega)]
        refine ⟨r1, r2, r3, fun q m hq => ?_⟩
        obtain ⟨t1, t2, t3⟩ := r4 q m hq
        have hmk : m ≠ k := fun z => by
          have hq2 := List.mem_of_getElem? hq
          rw [h3.2.1, List.mem_filter, z] at hq2
          exact hjr (beq_iff_eq.mp hq2.2).symm
        rw [gup_of hmk]
        exact ⟨t1, t2, t3⟩
