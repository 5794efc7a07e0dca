/-! steps of the class's world -/
theorem gup_at {α : Type} {f : Nat → α} {k : Nat} {v : α} : gup f k v k = v := if_pos rfl
theorem gup_of {α : Type} {f : Nat → α} {k j : Nat} {v : α} (h : j ≠ k) : gup f k v j = f j := if_neg h
def m_see (x : gS) (u : Nat) : gS := s_seen (gup (g_seen x) u (g_now x)) x
def m_note (x : gS) (v : gEv) : gS := s_log (g_log x ++ [v]) x
def adU (ad : Nat → Nat → Nat) (k n q : Nat) : Nat → Nat → Nat := fun k1 i1 => if k1 = k ∧ i1 = n then q else ad k1 i1
theorem adU_ne {ad : Nat → Nat → Nat} {k n q k1 i1 : Nat} (h : ¬ (k1 = k ∧ i1 = n)) : adU ad k n q k1 i1 = ad k1 i1 := if_neg h
theorem adU_at {ad : Nat → Nat → Nat} {k n q : Nat} : adU ad k n q k n = q := if_pos ⟨rfl, rfl⟩
theorem adU_k {ad : Nat → Nat → Nat} {k n q k1 : Nat} (h : k1 ≠ k) : adU ad k n q k1 = ad k1 := funext fun i => if_neg (fun z => h z.1)
theorem adM_k {ad : Nat → Nat → Nat} {k n q : Nat} (h : k ≠ 15) : adM (adU ad k n q) = adM ad := funext fun r => funext fun u => by
  unfold adM
  rw [adU_k (Ne.symm h)]
theorem cellX_ad {x : gS} {ad ad1 : Nat → Nat → Nat} (hi : iX x) (hA : ∀ k i, liveX x k i → ad1 k i = ad k i) {k i : Nat} {e : gE} (hl : liveX x k i) (hc : cellX x ad k i e) : cellX x ad1 k i e := by
  have m9 : ∀ l : List Nat, (∀ u ∈ l, u < g_nu x) → l.map (ad1 9) = l.map (ad 9) := fun l hl => List.map_congr_left (fun u hu => hA 9 u (hl u hu))
  have m12 : ∀ l : List Nat, (∀ u ∈ l, u < g_nr x) → l.map (ad1 12) = l.map (ad 12) := fun l hl => List.map_congr_left (fun u hu => hA 12 u (hl u hu))
  have m16 : ∀ l : List Nat, (∀ u ∈ l, u < g_nm x) → l.map (ad1 16) = l.map (ad 16) := fun l hl => List.map_congr_left (fun u hu => hA 16 u (hl u hu))
  have m19 : (List.range (g_log x).length).map (ad1 19) = (List.range (g_log x).length).map (ad 19) := List.map_congr_left (fun u hu => hA 19 u (List.mem_range.mp hu))
  have a0 := hA 1 0 rfl
  have a2 := hA 2 0 rfl
  have a3 := hA 3 0 rfl
  have a4 := hA 4 0 rfl
  have a5 := hA 5 0 rfl
  have a6 := hA 6 0 rfl
  have a7 := hA 7 0 rfl
  have a8 := hA 8 0 rfl
  unfold cellX at hc ⊢
  split at hc
  case h_1 => rw [a0, a2, a3, a4, a5]; exact hc
  case h_2 => rw [m9 _ (fun u hu => List.mem_range.mp hu)]; exact hc
  case h_3 => rw [m12 _ (fun u hu => List.mem_range.mp hu)]; exact hc
  case h_4 => rw [m16 _ (fun u hu => List.mem_range.mp hu)]; exact hc
  case h_5 => rw [m19]; exact hc
  case h_6 => rw [a6, a7, a8]; exact hc
  case h_7 => exact hc
  case h_8 => exact hc
  case h_9 => exact hc
  case h_10 => rw [hA 10 i hl]; exact hc
  case h_11 => rw [hA 11 i hl]; exact hc
  case h_12 => exact hc
  case h_13 => rw [hA 13 i hl, hA 14 i hl]; exact hc
  case h_14 =>
    rw [show (g_mem x i).map (adM ad1 i) = (g_mem x i).map (adM ad i) from List.map_congr_left (fun u hu => hA 15 (6 * i + u) (lvM hl hu (hi.m6 hu)))]
    exact hc
  case h_15 => rw [m16 _ (hi.2.2.1 i).2]; exact hc
  case h_16 =>
    have hl2 : i / 6 < g_nr x ∧ i % 6 ∈ g_mem x (i / 6) := hl
    rw [hA 9 (i % 6) ((hi.2.1 _).2.2 _ hl2.2)]
    exact hc
  case h_17 =>
    obtain ⟨i1, i2, -, -, -, -, -, -, i9⟩ := hi.2.2.2.1 i hl
    rw [hA 9 _ i1, hA 12 _ i2, hA 17 i hl]
    cases hp : g_pa x i with
    | none => rw [hp] at hc; exact hc
    | some p =>
      rw [hp] at hc
      unfold prV at hc ⊢
      dsimp only at hc ⊢
      rw [hA 16 p (Nat.lt_trans (i9 p hp) hl)]
      exact hc
  case h_18 => rw [hA 18 i hl]; exact hc
  case h_19 => exact hc
  case h_20 => exact hc
  case h_21 => exact hc
section HST
variable {h : gH} {x : gS} {ad : Nat → Nat → Nat}
theorem holdsX.fresh (hh : holdsX h x ad) {q : Nat} {e : gE} (hq : h q = none) : holdsX (gset h q e) x ad ∧ gfr h (gset h q e) := by
  have hf : gfr h (gset h q e) := gfr.new hq
  refine ⟨⟨fun k i hl => ?_, hh.2.1, hf.ed hh.2.2.1, hf.k hh.2.2.2⟩, hf⟩
  obtain ⟨e1, h1, h2⟩ := hh.1 k i hl
  exact ⟨e1, by rw [gset_ne (fun z => by rw [z, hq] at h1; cases h1)]; exact h1, h2⟩
theorem holdsX.nn (hh : holdsX h x ad) {k i : Nat} (hl : liveX x k i) : h (ad k i) ≠ none := by
  obtain ⟨e1, h1, -⟩ := hh.1 k i hl
  rw [h1]
  exact fun z => by cases z
/-- two cells are written -/
theorem holdsX.set2 (hh : holdsX h x ad) {x1 : gS} (k i k2 i2 : Nat) (hl : liveX x k i) (hl2 : liveX x k2 i2) {e e2 : gE} (hlive : ∀ k1 i1, liveX x1 k1 i1 ↔ liveX x k1 i1) (hn : k ≠ k2 ∨ i ≠ i2) (he : cellX x1 ad k i e) (he2 : cellX x1 ad k2 i2 e2) (hc : ∀ k1 i1 e1, (k1 ≠ k ∨ i1 ≠ i) → (k1 ≠ k2 ∨ i1 ≠ i2) → liveX x k1 i1 → cellX x ad k1 i1 e1 → cellX x1 ad k1 i1 e1) : holdsX (gset (gset h (ad k i) e) (ad k2 i2) e2) x1 ad ∧ gfr h (gset (gset h (ad k i) e) (ad k2 i2) e2) := by
  obtain ⟨e0, hq, hc0⟩ := hh.1 k i hl
  obtain ⟨e9, rfl⟩ := cellX_tag hc0
  obtain ⟨e02, hq2, hc02⟩ := hh.1 k2 i2 hl2
  obtain ⟨e92, rfl⟩ := cellX_tag hc02
  have hne := hh.ne hl hl2 hn
  have hf : gfr h (gset (gset h (ad k i) e) (ad k2 i2) e2) := (gfr.set hq).trans (gfr.set (by rw [gset_ne (Ne.symm hne)]; exact hq2))
  refine ⟨⟨fun k1 i1 h1 => ?_, fun k1 i1 k2 i2 h1 h2 z => hh.2.1 k1 i1 k2 i2 ((hlive _ _).mp h1) ((hlive _ _).mp h2) z, hf.ed hh.2.2.1, hf.k hh.2.2.2⟩, hf⟩
  have h1 := (hlive _ _).mp h1
  by_cases hk2 : k1 = k2 ∧ i1 = i2
  · obtain ⟨rfl, rfl⟩ := hk2
    exact ⟨e2, gset_self _ _ _, he2⟩
  · have hn2 : k1 ≠ k2 ∨ i1 ≠ i2 := by
      by_cases a : k1 = k2
      · exact Or.inr (fun b => hk2 ⟨a, b⟩)
      · exact Or.inl a
    by_cases hk : k1 = k ∧ i1 = i
    · obtain ⟨rfl, rfl⟩ := hk
      exact ⟨e, by rw [gset_ne hne, gset_self], he⟩
    · have hn1 : k1 ≠ k ∨ i1 ≠ i := by
        by_cases a : k1 = k
        · exact Or.inr (fun b => hk ⟨a, b⟩)
        · exact Or.inl a
      obtain ⟨e1, hq1, hc1⟩ := hh.1 k1 i1 h1
      exact ⟨e1, by rw [gset_ne (hh.ne h1 hl2 hn2), gset_ne (hh.ne h1 hl hn1)]; exact hq1, hc k1 i1 e1 hn1 hn2 h1 hc1⟩
/-- new cells come in, one old one is written -/
theorem holdsX.ext (hh : holdsX h x ad) {x1 : gS} {ad1 : Nat → Nat → Nat} (k0 i0 : Nat) (hl0 : liveX x k0 i0) {e : gE}
    (hnew : ∀ k i, liveX x1 k i → (liveX x k i ∧ ad1 k i = ad k i) ∨ (¬ liveX x k i ∧ (∃ e, h (ad1 k i) = some e ∧ cellX x1 ad1 k i e) ∧ ∀ k2 i2, liveX x k2 i2 → ad k2 i2 ≠ ad1 k i))
    (hni : ∀ k i k2 i2, liveX x1 k i → liveX x1 k2 i2 → ¬ liveX x k i → ¬ liveX x k2 i2 → ad1 k i = ad1 k2 i2 → k = k2 ∧ i = i2)
    (he : cellX x1 ad1 k0 i0 e) (hc : ∀ k1 i1 e1, (k1 ≠ k0 ∨ i1 ≠ i0) → liveX x k1 i1 → cellX x ad k1 i1 e1 → cellX x1 ad1 k1 i1 e1) : holdsX (gset h (ad k0 i0) e) x1 ad1 ∧ gfr h (gset h (ad k0 i0) e) := by
  obtain ⟨e0, hq, hc0⟩ := hh.1 k0 i0 hl0
  obtain ⟨e9, rfl⟩ := cellX_tag hc0
  have hf : gfr h (gset h (ad k0 i0) e) := gfr.set hq
  refine ⟨⟨fun k i h1 => ?_, fun k i k2 i2 h1 h2 z => ?_, hf.ed hh.2.2.1, hf.k hh.2.2.2⟩, hf⟩
  · rcases hnew k i h1 with ⟨q1, q2⟩ | ⟨-, ⟨e2, q1, q2⟩, q3⟩
    · rw [q2]
      by_cases hk : k = k0 ∧ i = i0
      · obtain ⟨rfl, rfl⟩ := hk
        exact ⟨e, gset_self _ _ _, he⟩
      · have hn : k ≠ k0 ∨ i ≠ i0 := by
          by_cases a : k = k0
          · exact Or.inr (fun b => hk ⟨a, b⟩)
          · exact Or.inl a
        obtain ⟨e1, hq1, hc1⟩ := hh.1 k i q1
        exact ⟨e1, by rw [gset_ne (hh.ne q1 hl0 hn)]; exact hq1, hc k i e1 hn q1 hc1⟩
    · exact ⟨e2, by rw [gset_ne (Ne.symm (q3 k0 i0 hl0))]; exact q1, q2⟩
  · rcases hnew k i h1 with ⟨q1, q2⟩ | ⟨q1, -, q3⟩
    · rcases hnew k2 i2 h2 with ⟨p1, p2⟩ | ⟨-, -, p3⟩
      · rw [q2, p2] at z
        exact hh.2.1 _ _ _ _ q1 p1 z
      · rw [q2] at z
        exact absurd z (p3 k i q1)
    · rcases hnew k2 i2 h2 with ⟨p1, p2⟩ | ⟨p1, -, p3⟩
      · rw [p2] at z
        exact absurd z.symm (q3 k2 i2 p1)
      · exact hni k i k2 i2 h1 h2 q1 p1 z
end HST
/-! single steps -/
theorem c_see {x : gS} {ad : Nat → Nat → Nat} {u k i : Nat} {v : Nat} {e : gE} (hn : k ≠ 9 ∨ i ≠ u) (hc : cellX x ad k i e) : cellX (s_seen (gup (g_seen x) u v) x) ad k i e := by
  unfold cellX at hc ⊢
  simp only [e_seen]
  split at hc <;> first | exact hc | (rw [gup_of (hn.resolve_left (fun z => z rfl))]; exact hc)
theorem l_see {x : gS} {v : Nat → Nat} (k i : Nat) : liveX (s_seen v x) k i ↔ liveX x k i := by
  unfold liveX
  simp only [e_seen]
theorem holdsX.see {h : gH} {x : gS} {ad : Nat → Nat → Nat} (hh : holdsX h x ad) {u : Nat} (hu : u < g_nu x) : holdsX (gset h (ad 9 u) (oX 8 [.int (nI u), .ref (ad 10 u), .float (g_tok x u), .int (nI (g_now x))])) (m_see x u) ad ∧ gfr h (gset h (ad 9 u) (oX 8 [.int (nI u), .ref (ad 10 u), .float (g_tok x u), .int (nI (g_now x))])) :=
  hh.set 9 u hu l_see (by unfold m_see cellX; simp only [e_seen, gup_at]) (fun k1 i1 e1 hn _ hc => c_see hn hc)
theorem c_tok {x : gS} {ad : Nat → Nat → Nat} {u k i : Nat} {v : UInt32} {e : gE} (hn : k ≠ 9 ∨ i ≠ u) (hc : cellX x ad k i e) : cellX (s_tok (gup (g_tok x) u v) x) ad k i e := by
  unfold cellX at hc ⊢
  simp only [e_tok]
  split at hc <;> first | exact hc | (rw [gup_of (hn.resolve_left (fun z => z rfl))]; exact hc)
theorem l_tok {x : gS} {v : Nat → UInt32} (k i : Nat) : liveX (s_tok v x) k i ↔ liveX x k i := by
  unfold liveX
  simp only [e_tok]
theorem holdsX.tok {h : gH} {x : gS} {ad : Nat → Nat → Nat} (hh : holdsX h x ad) {u : Nat} {v : UInt32} (hu : u < g_nu x) : holdsX (gset h (ad 9 u) (oX 8 [.int (nI u), .ref (ad 10 u), .float v, .int (nI (g_seen x u))])) (s_tok (gup (g_tok x) u v) x) ad ∧ gfr h (gset h (ad 9 u) (oX 8 [.int (nI u), .ref (ad 10 u), .float v, .int (nI (g_seen x u))])) :=
  hh.set 9 u hu l_tok (by unfold cellX; simp only [e_tok, gup_at]) (fun k1 i1 e1 hn _ hc => c_tok hn hc)
theorem l_log {x : gS} {v : gEv} {k i : Nat} (h : liveX (m_note x v) k i) : liveX x k i ∨ (k = 19 ∧ i = (g_log x).length) := by
  unfold m_note at h
  unfold liveX at h ⊢
  simp only [e_log, List.length_append, List.length_singleton] at h
  split at h
  case h_20 => exact (Nat.lt_succ_iff_lt_or_eq.mp h).imp id (fun z => ⟨rfl, z⟩)
  all_goals exact Or.inl h
theorem c_log {x : gS} {ad : Nat → Nat → Nat} {q k i : Nat} {v : gEv} {e : gE} (hn : k ≠ 4) (hl : liveX x k i) (hc : cellX x ad k i e) : cellX (m_note x v) (adU ad 19 (g_log x).length q) k i e := by
  unfold m_note
  unfold cellX at hc ⊢
  simp only [e_log, adU_k (show (1 : Nat) ≠ 19 by decide), adU_k (show (2 : Nat) ≠ 19 by decide), adU_k (show (3 : Nat) ≠ 19 by decide), adU_k (show (4 : Nat) ≠ 19 by decide), adU_k (show (5 : Nat) ≠ 19 by decide), adU_k (show (6 : Nat) ≠ 19 by decide), adU_k (show (7 : Nat) ≠ 19 by decide), adU_k (show (8 : Nat) ≠ 19 by decide), adU_k (show (9 : Nat) ≠ 19 by decide), adU_k (show (10 : Nat) ≠ 19 by decide), adU_k (show (11 : Nat) ≠ 19 by decide), adU_k (show (12 : Nat) ≠ 19 by decide), adU_k (show (13 : Nat) ≠ 19 by decide), adU_k (show (14 : Nat) ≠ 19 by decide), adU_k (show (15 : Nat) ≠ 19 by decide), adU_k (show (16 : Nat) ≠ 19 by decide), adU_k (show (17 : Nat) ≠ 19 by decide), adU_k (show (18 : Nat) ≠ 19 by decide), adM_k (show (19 : Nat) ≠ 15 by decide)]
  split at hc
  case h_5 => exact absurd rfl hn
  case h_20 =>
    obtain ⟨w, h1, h2⟩ := hc
    exact ⟨w, by rw [List.getElem?_append_left hl]; exact h1, h2⟩
  all_goals exact hc
theorem holdsX.note {h : gH} {x : gS} {ad : Nat → Nat → Nat} (hh : holdsX h x ad) {v : gEv} {q : Nat} (hq : h q = none) (h1 : gH) (hh1 : h1 = gset (gset h q (oX 3 [.int (nI v.1), .int v.2.1, .int v.2.2.1, .int v.2.2.2.1, .int (nI v.2.2.2.2)])) (ad 4 0) (lX (((List.range (g_log x).length).map (ad 19)) ++ [q]))) : holdsX h1 (m_note x v) (adU ad 19 (g_log x).length q) ∧ gfr h h1 := by
  subst hh1
  obtain ⟨f1, f2⟩ := hh.fresh (e := oX 3 [.int (nI v.1), .int v.2.1, .int v.2.2.1, .int v.2.2.2.1, .int (nI v.2.2.2.2)]) hq
  have hnl : ¬ liveX x 19 (g_log x).length := fun z => absurd (show (g_log x).length < (g_log x).length from z) (Nat.lt_irrefl _)
  suffices hx : _ ∧ _ from ⟨hx.1, f2.trans hx.2⟩
  refine holdsX.ext f1 (x1 := m_note x v) (ad1 := adU ad 19 (g_log x).length q) 4 0 rfl (e := lX (((List.range (g_log x).length).map (ad 19)) ++ [q])) (fun k i hl => ?_) (fun k i k2 i2 hl hl2 n1 n2 z => ?_) ?_ (fun k i e hn hl hc => c_log ?_ hl hc)
  · by_cases hk : k = 19 ∧ i = (g_log x).length
    · obtain ⟨rfl, rfl⟩ := hk
      refine Or.inr ⟨hnl, ⟨_, by rw [adU_at, gset_self], v, ?_, rfl⟩, fun k2 i2 hl2 z => ?_⟩
      · unfold m_note
        rw [(e_log _ _).2.2.2.2.2.2.2.2.2.2.2.2.2.2.2.2.2.2.2.2.2.2.2, List.getElem?_append_right (Nat.le_refl _), Nat.sub_self]
        rfl
      · rw [adU_at] at z
        exact hh.nn hl2 (by rw [z]; exact hq)
    · exact Or.inl ⟨(l_log hl).resolve_right hk, adU_ne hk⟩
  · have a := (l_log hl).resolve_left n1
    have b := (l_log hl2).resolve_left n2
    exact ⟨a.1.trans b.1.symm, a.2.trans b.2.symm⟩
  · show _ = _
    unfold m_note
    rw [(e_log _ _).2.2.2.2.2.2.2.2.2.2.2.2.2.2.2.2.2.2.2.2.2.2.2, List.length_append, List.length_singleton, List.range_succ, List.map_append, List.map_singleton, adU_at, show (List.range (g_log x).length).map (adU ad 19 (g_log x).length q 19) = (List.range (g_log x).length).map (ad 19) from List.map_congr_left (fun j hj => adU_ne (fun z => absurd z.2 (Nat.ne_of_lt (List.mem_range.mp hj))))]
  · rcases hn with hn | hn
    · exact hn
    · intro z
      subst z
      exact hn hl
