/-! a message comes in -/
def dpN (x : gS) (p : Option Nat) : Nat := match p with
  | none => 0
  | some q => g_dp x q + 1
def m_p1 (x : gS) (i j : Nat) (p : Option Nat) : gS := s_ts (gup (g_ts x) (g_nm x) 1) <| s_nm (g_nm x + 1) <| s_au (gup (g_au x) (g_nm x) i) <| s_rm (gup (g_rm x) (g_nm x) j) <| s_rk (gup (g_rk x) (g_nm x) (g_rms x j).length) <| s_pa (gup (g_pa x) (g_nm x) p) <| s_tm (gup (g_tm x) (g_nm x) (g_now x)) <| s_dp (gup (g_dp x) (g_nm x) (dpN x p)) <| s_tx (gup (g_tx x) (g_nm x) (g_dr x i)) <| s_mm (gup (g_mm x) (g_nm x) (mmX (g_dr x i) (g_mem x j) i)) <| s_ed (gup (g_ed x) (g_nm x) 0) <| s_gone (gup (g_gone x) (g_nm x) false) <| s_th (gup (g_th x) (g_nm x) (fun v => decide (v ∈ g_mem x j))) <| s_dr (gup (g_dr x) i []) <| s_tok (gup (g_tok x) i (FP.fsub (g_tok x i) FP.fconst1)) x
theorem em_p1 (x : gS) (i j : Nat) (p : Option Nat) : g_nu (m_p1 x i j p) = g_nu x ∧ g_nr (m_p1 x i j p) = g_nr x ∧ g_nm (m_p1 x i j p) = g_nm x + 1 ∧ g_now (m_p1 x i j p) = g_now x ∧ g_rf (m_p1 x i j p) = g_rf x ∧ g_tok (m_p1 x i j p) = gup (g_tok x) i (FP.fsub (g_tok x i) FP.fconst1) ∧ g_seen (m_p1 x i j p) = g_seen x ∧ g_dr (m_p1 x i j p) = gup (g_dr x) i [] ∧ g_mem (m_p1 x i j p) = g_mem x ∧ g_mk (m_p1 x i j p) = g_mk x ∧ g_rms (m_p1 x i j p) = g_rms x ∧ g_au (m_p1 x i j p) = gup (g_au x) (g_nm x) i ∧ g_rm (m_p1 x i j p) = gup (g_rm x) (g_nm x) j ∧ g_rk (m_p1 x i j p) = gup (g_rk x) (g_nm x) (g_rms x j).length ∧ g_tm (m_p1 x i j p) = gup (g_tm x) (g_nm x) (g_now x) ∧ g_dp (m_p1 x i j p) = gup (g_dp x) (g_nm x) (dpN x p) ∧ g_ts (m_p1 x i j p) = gup (g_ts x) (g_nm x) 1 ∧ g_mm (m_p1 x i j p) = gup (g_mm x) (g_nm x) (mmX (g_dr x i) (g_mem x j) i) ∧ g_ed (m_p1 x i j p) = gup (g_ed x) (g_nm x) 0 ∧ g_pa (m_p1 x i j p) = gup (g_pa x) (g_nm x) p ∧ g_tx (m_p1 x i j p) = gup (g_tx x) (g_nm x) (g_dr x i) ∧ g_gone (m_p1 x i j p) = gup (g_gone x) (g_nm x) false ∧ g_th (m_p1 x i j p) = gup (g_th x) (g_nm x) (fun v => decide (v ∈ g_mem x j)) ∧ g_log (m_p1 x i j p) = g_log x := by
  unfold m_p1
  simp only [e_ts, e_nm, e_au, e_rm, e_rk, e_pa, e_tm, e_dp, e_tx, e_mm, e_ed, e_gone, e_th, e_dr, e_tok]
  refine ⟨?_, ?_, ?_, ?_, ?_, ?_, ?_, ?_, ?_, ?_, ?_, ?_, ?_, ?_, ?_, ?_, ?_, ?_, ?_, ?_, ?_, ?_, ?_, ?_⟩ <;> first | exact True.intro | rfl
theorem tsA_up {pa : Nat → Option Nat} {N : Nat} {p0 : Option Nat} (hp : ∀ m, m < N → ∀ q, pa m = some q → q < m) : ∀ n q f, n ≤ N → (∀ r, q = some r → r < n) → tsA (gup pa N p0) (n + 1) q f = tsA pa n q f := by
  intro n
  induction n with
  | zero =>
    intro q f _ hq
    cases q with
    | none => rfl
    | some r => exact absurd (hq r rfl) (Nat.not_lt_zero r)
  | succ n ih =>
    intro q f hn hq
    cases q with
    | none => rfl
    | some r =>
      have hr := hq r rfl
      show tsA (gup pa N p0) (n + 1) (gup pa N p0 r) (gup f r (f r + 1)) = tsA pa n (pa r) (gup f r (f r + 1))
      rw [gup_of (by omega)]
      exact ih (pa r) _ (by omega) (fun s hs => by have := hp r (by omega) s hs; omega)
theorem gS_ext {x y : gS} (h0 : g_nu x = g_nu y) (h1 : g_nr x = g_nr y) (h2 : g_nm x = g_nm y) (h3 : g_now x = g_now y) (h4 : g_rf x = g_rf y) (h5 : g_tok x = g_tok y) (h6 : g_seen x = g_seen y) (h7 : g_dr x = g_dr y) (h8 : g_mem x = g_mem y) (h9 : g_mk x = g_mk y) (h10 : g_rms x = g_rms y) (h11 : g_au x = g_au y) (h12 : g_rm x = g_rm y) (h13 : g_rk x = g_rk y) (h14 : g_tm x = g_tm y) (h15 : g_dp x = g_dp y) (h16 : g_ts x = g_ts y) (h17 : g_mm x = g_mm y) (h18 : g_ed x = g_ed y) (h19 : g_pa x = g_pa y) (h20 : g_tx x = g_tx y) (h21 : g_gone x = g_gone y) (h22 : g_th x = g_th y) (h23 : g_log x = g_log y) : x = y := (Prod.ext h0 (Prod.ext h1 (Prod.ext h2 (Prod.ext h3 (Prod.ext h4 (Prod.ext h5 (Prod.ext h6 (Prod.ext h7 (Prod.ext h8 (Prod.ext h9 (Prod.ext h10 (Prod.ext h11 (Prod.ext h12 (Prod.ext h13 (Prod.ext h14 (Prod.ext h15 (Prod.ext h16 (Prod.ext h17 (Prod.ext h18 (Prod.ext h19 (Prod.ext h20 (Prod.ext h21 (Prod.ext h22 h23)))))))))))))))))))))))
theorem m_post_eq (x : gS) (i j : Nat) (p : Option Nat) (hp : ∀ m, m < g_nm x → ∀ q, g_pa x m = some q → q < m) (hq : ∀ r, p = some r → r < g_nm x) : s_ts (tsA (gup (g_pa x) (g_nm x) p) (g_nm x + 1) p (gup (g_ts x) (g_nm x) 1)) (s_rms (gup (g_rms x) j (g_rms x j ++ [g_nm x])) (m_p1 x i j p)) = m_post x i j p := by
  rw [tsA_up hp (g_nm x) p _ (Nat.le_refl _) hq]
  apply gS_ext <;> simp only [em_post, e_ts, e_rms, em_p1]
  unfold dpN
  rfl
def adP (ad : Nat → Nat → Nat) (n a b c : Nat) : Nat → Nat → Nat := adU (adU (adU ad 16 n a) 17 n b) 18 n c
theorem adP_of {ad : Nat → Nat → Nat} {n a b c k i : Nat} (h : ¬ ((k = 16 ∨ k = 17 ∨ k = 18) ∧ i = n)) : adP ad n a b c k i = ad k i := by
  unfold adP
  rw [adU_ne (fun z => h ⟨Or.inr (Or.inr z.1), z.2⟩), adU_ne (fun z => h ⟨Or.inr (Or.inl z.1), z.2⟩), adU_ne (fun z => h ⟨Or.inl z.1, z.2⟩)]
theorem adP_16 {ad : Nat → Nat → Nat} {n a b c : Nat} : adP ad n a b c 16 n = a := by
  unfold adP
  rw [adU_ne (by omega), adU_ne (by omega), adU_at]
theorem adP_17 {ad : Nat → Nat → Nat} {n a b c : Nat} : adP ad n a b c 17 n = b := by
  unfold adP
  rw [adU_ne (by omega), adU_at]
theorem adP_18 {ad : Nat → Nat → Nat} {n a b c : Nat} : adP ad n a b c 18 n = c := by
  unfold adP
  rw [adU_at]
theorem l_p1 {x : gS} {i0 j0 : Nat} {p : Option Nat} {k i : Nat} (h : liveX (m_p1 x i0 j0 p) k i) : liveX x k i ∨ ((k = 16 ∨ k = 17 ∨ k = 18) ∧ i = g_nm x) := by
  unfold liveX at h ⊢
  simp only [em_p1] at h
  split at h
  case h_17 => exact (Nat.lt_succ_iff_lt_or_eq.mp h).imp id (fun z => ⟨Or.inl rfl, z⟩)
  case h_18 => exact (Nat.lt_succ_iff_lt_or_eq.mp h).imp id (fun z => ⟨Or.inr (Or.inl rfl), z⟩)
  case h_19 => exact (Nat.lt_succ_iff_lt_or_eq.mp h).imp id (fun z => ⟨Or.inr (Or.inr rfl), z⟩)
  all_goals exact Or.inl h
abbrev m_p0 (x : gS) (i : Nat) : gS := m_dr (s_tok (gup (g_tok x) i (FP.fsub (g_tok x i) FP.fconst1)) x) i []
theorem c_p1 {x : gS} {ad : Nat → Nat → Nat} {i0 j0 : Nat} {p : Option Nat} {k i : Nat} {e : gE} (hl : liveX x k i) (hn : k ≠ 3) (hc : cellX (m_p0 x i0) ad k i e) : cellX (m_p1 x i0 j0 p) ad k i e := by
  unfold cellX at hc ⊢
  simp only [em_p1]
  simp only [em_dr, e_tok] at hc
  split at hc
  case h_4 => exact absurd rfl hn
  case h_17 =>
    have hne : i ≠ g_nm x := Nat.ne_of_lt hl
    rw [gup_of hne, gup_of hne, gup_of hne, gup_of hne, gup_of hne, gup_of hne, gup_of hne, gup_of hne, gup_of hne, gup_of hne]
    exact hc
  case h_18 =>
    rw [gup_of (Nat.ne_of_lt hl)]
    exact hc
  case h_19 =>
    rw [gup_of (Nat.ne_of_lt hl)]
    exact hc
  all_goals exact hc
theorem l_p0 {x : gS} {i0 k i : Nat} : liveX (m_p0 x i0) k i ↔ liveX x k i := by
  unfold liveX
  simp only [em_dr, e_tok]
theorem iX_p0 {x : gS} {i0 : Nat} (h : iX x) : iX (m_p0 x i0) := by
  unfold iX gBd at h
  unfold iX gBd
  simp only [em_dr, e_tok]
  obtain ⟨⟨a1, a2, a3, a4, a5, a6, a7, a8, a9⟩, b, c, d, e⟩ := h
  refine ⟨⟨a1, a2, a3, a4, a5, a6, fun u => ?_, a8, a9⟩, b, c, d, e⟩
  unfold gup
  split
  · exact Nat.zero_le _
  · exact a7 u
theorem l_rms {x : gS} {v : Nat → List Nat} (k i : Nat) : liveX (s_rms v x) k i ↔ liveX x k i := by
  unfold liveX
  simp only [e_rms]
theorem c_rms {x : gS} {ad : Nat → Nat → Nat} {j k n : Nat} {l : List Nat} {e : gE} (h1 : k ≠ 14 ∨ n ≠ j) (hc : cellX x ad k n e) : cellX (s_rms (gup (g_rms x) j l) x) ad k n e := by
  unfold cellX at hc ⊢
  simp only [e_rms]
  split at hc <;> first | exact hc | (rw [gup_of (h1.resolve_left (fun z => z rfl))]; exact hc)
theorem dr_p0 {x : gS} {i : Nat} : g_tx (m_p0 x i) = g_tx x := by simp only [em_dr, e_tok]
/-- from the world where the new message's cells stand, its text taken, to the lists that hold it -/
theorem holdsX.pst {h : gH} {x : gS} {ad : Nat → Nat → Nat} {i j : Nat} {p : Option Nat} (hh : holdsX h (m_p0 x i) ad) (hi : iX x) (hiu : i < g_nu x) (hj : j < g_nr x) (hp : ∀ r, p = some r → r < g_nm x) {a b c : Nat} {f : Nat → Int32} (qa : h a = some (oX 4 [.int (nI (g_nm x)), .ref (ad 9 i), .ref (ad 12 j), .int (nI (g_rms x j).length), prV ad p, .int (nI (g_now x)), .int (nI (dpN x p)), .ref b, .int (nI 1), .int (nI (mmX (g_dr x i) (g_mem x j) i)), .int (nI 0), .int (nI 0)])) (qb : h b = some (oX 7 [.ref c, .int (nI (g_dr x i).length)])) (qc : h c = some (aX .char 20 f)) (hf : txA (g_dr x i) f) (na : ∀ k i, liveX x k i → ad k i ≠ a) (nb : ∀ k i, liveX x k i → ad k i ≠ b) (nc : ∀ k i, liveX x k i → ad k i ≠ c) : holdsX (gset (gset h (ad 3 0) (lX ((List.range (g_nm x)).map (ad 16) ++ [a]))) (ad 14 j) (lX ((g_rms x j).map (ad 16) ++ [a]))) (s_rms (gup (g_rms x) j (g_rms x j ++ [g_nm x])) (m_p1 x i j p)) (adP ad (g_nm x) a b c) ∧ gfr h (gset (gset h (ad 3 0) (lX ((List.range (g_nm x)).map (ad 16) ++ [a]))) (ad 14 j) (lX ((g_rms x j).map (ad 16) ++ [a]))) := by
  have hnl : ∀ k, (k = 16 ∨ k = 17 ∨ k = 18) → ¬ liveX x k (g_nm x) := fun k hk z => by
    rcases hk with rfl | rfl | rfl <;> exact absurd (show g_nm x < g_nm x from z) (Nat.lt_irrefl _)
  have hA : ∀ k i, liveX x k i → adP ad (g_nm x) a b c k i = ad k i := fun k i hl => adP_of (fun z => hnl k z.1 (by rw [← z.2]; exact hl))
  have nab : a ≠ b := fun z => by rw [z, qb] at qa; cases qa
  have nac : a ≠ c := fun z => by rw [z, qc] at qa; cases qa
  have nbc : b ≠ c := fun z => by rw [z, qc] at qb; cases qb
  have s1 : holdsX (gset h (ad 3 0) (lX ((List.range (g_nm x)).map (ad 16) ++ [a]))) (m_p1 x i j p) (adP ad (g_nm x) a b c) ∧ gfr h (gset h (ad 3 0) (lX ((List.range (g_nm x)).map (ad 16) ++ [a]))) := by
    refine holdsX.ext hh 3 0 rfl (fun k i2 hl => ?_) (fun k i k2 i2 hl hl2 m1 m2 z => ?_) ?_ (fun k i e hn hl hc => c_p1 (l_p0.mp hl) ?_ (cellX_ad (iX_p0 hi) (fun k i hl => hA k i (l_p0.mp hl)) hl hc))
    · rcases l_p1 hl with hl | ⟨hk, rfl⟩
      · exact Or.inl ⟨l_p0.mpr hl, hA k i2 hl⟩
      · refine Or.inr ⟨fun z => hnl k hk (l_p0.mp z), ?_⟩
        rcases hk with rfl | rfl | rfl
        · rw [adP_16]
          refine ⟨⟨_, qa, ?_⟩, fun k2 i2 hl2 => na k2 i2 (l_p0.mp hl2)⟩
          unfold cellX
          simp only [em_p1, gup_at, adP_17, b2i_f]
          rw [adP_of (by omega), adP_of (by omega)]
          cases p with
          | none => rfl
          | some r =>
            unfold prV
            dsimp only
            rw [adP_of (fun z => absurd z.2 (Nat.ne_of_lt (hp r rfl)))]
        · rw [adP_17]
          refine ⟨⟨_, qb, ?_⟩, fun k2 i2 hl2 => nb k2 i2 (l_p0.mp hl2)⟩
          unfold cellX
          simp only [em_p1, gup_at, adP_18]
        · rw [adP_18]
          refine ⟨⟨_, qc, f, rfl, ?_⟩, fun k2 i2 hl2 => nc k2 i2 (l_p0.mp hl2)⟩
          simp only [em_p1, gup_at]
          exact hf
    · obtain ⟨a1, rfl⟩ := (l_p1 hl).resolve_left (fun q => m1 (l_p0.mpr q))
      obtain ⟨b1, rfl⟩ := (l_p1 hl2).resolve_left (fun q => m2 (l_p0.mpr q))
      refine ⟨?_, rfl⟩
      rcases a1 with rfl | rfl | rfl <;> rcases b1 with rfl | rfl | rfl <;> simp only [adP_16, adP_17, adP_18] at z <;> first | rfl | omega
    · show _ = _
      simp only [em_p1]
      rw [List.range_succ, List.map_append, List.map_singleton, adP_16, show (List.range (g_nm x)).map (adP ad (g_nm x) a b c 16) = (List.range (g_nm x)).map (ad 16) from List.map_congr_left (fun j hj => hA 16 j (List.mem_range.mp hj))]
    · rcases hn with hn | hn
      · exact hn
      · intro z
        subst z
        exact hn hl
  have s2 := s1.1.set (x1 := s_rms (gup (g_rms (m_p1 x i j p)) j (g_rms x j ++ [g_nm x])) (m_p1 x i j p)) 14 j (by simp only [liveX, em_p1]; exact hj) (e := lX ((g_rms x j).map (ad 16) ++ [a])) l_rms (by
    unfold cellX
    simp only [e_rms, gup_at, List.map_append, List.map_singleton, adP_16]
    rw [show (g_rms x j).map (adP ad (g_nm x) a b c 16) = (g_rms x j).map (ad 16) from List.map_congr_left (fun m hm => hA 16 m ((hi.2.2.1 j).2 m hm))]) (fun k1 i1 e1 hn _ hc => c_rms hn hc)
  rw [hA 14 j hj] at s2
  simp only [em_p1] at s2
  exact ⟨s2.1, s1.2.trans s2.2⟩
