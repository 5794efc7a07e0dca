/-! masks and replays -/
theorem lmk_tb {l : List Nat} {u : Nat} (hu : u < 6) : ∀ j, (lmk l j).testBit u = true ↔ ∃ k, k + 1 < j ∧ l.getD k 0 = 64 ∧ l.getD (k + 1) 0 = 97 + u
  | 0 => by
    unfold lmk
    rw [Nat.zero_testBit]
    exact ⟨fun q => (by cases q), fun ⟨k, h, _⟩ => absurd h (Nat.not_lt_zero _)⟩
  | j + 1 => by
    have ih := lmk_tb hu (l := l) j
    have up : (∃ k, k + 1 < j + 1 ∧ l.getD k 0 = 64 ∧ l.getD (k + 1) 0 = 97 + u) ↔ ((∃ k, k + 1 < j ∧ l.getD k 0 = 64 ∧ l.getD (k + 1) 0 = 97 + u) ∨ (1 ≤ j ∧ l.getD (j - 1) 0 = 64 ∧ l.getD j 0 = 97 + u)) := by
      constructor
      · rintro ⟨k, h1, h2, h3⟩
        by_cases hk : k + 1 < j
        · exact Or.inl ⟨k, hk, h2, h3⟩
        · have : j = k + 1 := by omega
          subst this
          exact Or.inr ⟨by omega, h2, h3⟩
      · rintro (⟨k, h1, h2, h3⟩ | ⟨h1, h2, h3⟩)
        · exact ⟨k, by omega, h2, h3⟩
        · refine ⟨j - 1, by omega, h2, ?_⟩
          rw [show j - 1 + 1 = j by omega]
          exact h3
    rw [up]
    unfold lmk
    by_cases hc : 1 ≤ j ∧ l.getD (j - 1) 0 = 64 ∧ 97 ≤ l.getD j 0 ∧ l.getD j 0 < 103
    · rw [if_pos hc, Nat.testBit_or, Bool.or_eq_true, ih, Nat.testBit_two_pow, decide_eq_true_iff]
      constructor
      · rintro (h | h)
        · exact Or.inl h
        · exact Or.inr ⟨hc.1, hc.2.1, by omega⟩
      · rintro (h | h)
        · exact Or.inl h
        · exact Or.inr (by omega)
    · rw [if_neg hc, ih]
      constructor
      · exact Or.inl
      · rintro (h | h)
        · exact h
        · exact absurd ⟨h.1, h.2.1, by omega, by omega⟩ hc
theorem bmk_tb {u : Nat} (l : List Nat) : (bmk l).testBit u = true ↔ u ∈ l := by
  have z : ∀ (l : List Nat) (a : Nat), (l.foldl (fun m v => m ||| 2 ^ v) a).testBit u = true ↔ a.testBit u = true ∨ u ∈ l := by
    intro l
    induction l with
    | nil => exact fun a => ⟨Or.inl, fun h => h.elim id (fun h => absurd h List.not_mem_nil)⟩
    | cons b l ih =>
      intro a
      rw [List.foldl_cons, ih, Nat.testBit_or, Bool.or_eq_true, Nat.testBit_two_pow, decide_eq_true_iff, List.mem_cons]
      constructor
      · rintro ((h | h) | h)
        · exact Or.inl h
        · exact Or.inr (Or.inl h.symm)
        · exact Or.inr (Or.inr h)
      · rintro (h | h | h)
        · exact Or.inl (Or.inl h)
        · exact Or.inl (Or.inr h.symm)
        · exact Or.inr h
  unfold bmk
  rw [z]
  simp
theorem bmk_l64 {l : List Nat} (h : ∀ u ∈ l, u < 6) : bmk l < 64 := by
  have z : ∀ (l : List Nat) (a : Nat), a < 64 → (∀ u ∈ l, u < 6) → l.foldl (fun m v => m ||| 2 ^ v) a < 64 := by
    intro l
    induction l with
    | nil => exact fun a h _ => h
    | cons b l ih => exact fun a h1 h2 => ih _ (msk_lt a h1 b (h2 b List.mem_cons_self)) (fun u hu => h2 u (List.mem_cons_of_mem _ hu))
  exact z l 0 (by decide) h
theorem msk_ext {a b : Nat} (ha : a < 64) (hb : b < 64) (h : ∀ u, u < 6 → (a.testBit u = true ↔ b.testBit u = true)) : a = b := by
  refine Nat.eq_of_testBit_eq (fun u => ?_)
  by_cases hu : u < 6
  · have := h u hu
    cases h1 : a.testBit u <;> cases h2 : b.testBit u <;> rw [h1, h2] at this <;> simp_all
  · have p : 2 ^ 6 ≤ 2 ^ u := Nat.pow_le_pow_right (by decide) (by omega)
    rw [Nat.testBit_lt_two_pow (by omega), Nat.testBit_lt_two_pow (by omega)]
theorem xor_tb : ∀ i, i < 6 → ∀ u, u < 6 → (63 ^^^ 2 ^ i).testBit u = decide (u ≠ i) := by decide +kernel
theorem bmk_er {l : List Nat} {i : Nat} (hn : l.Nodup) (h : ∀ u ∈ l, u < 6) (hi : i < 6) : bmk (l.erase i) = bmk l &&& (63 ^^^ 2 ^ i) := by
  refine msk_ext (bmk_l64 (fun u hu => h u (List.mem_of_mem_erase hu))) (mk_and_lt _ (bmk_l64 h) _ (mk_xor_lt _ (mk_p6 i hi))) (fun u hu => ?_)
  rw [bmk_tb, Nat.testBit_and, Bool.and_eq_true, bmk_tb, xor_tb i hi u hu, decide_eq_true_iff, hn.mem_erase_iff]
  exact ⟨fun q => ⟨q.2, q.1⟩, fun q => ⟨q.2, q.1⟩⟩
theorem mkB_tb (f : Nat → Bool) : ∀ u, u < 6 → (mkB f).testBit u = f u := by
  intro u hu
  unfold mkB
  have z : ∀ b0 b1 b2 b3 b4 b5 : Bool, (b0.toNat + 2 * b1.toNat + 4 * b2.toNat + 8 * b3.toNat + 16 * b4.toNat + 32 * b5.toNat).testBit 0 = b0 ∧ (b0.toNat + 2 * b1.toNat + 4 * b2.toNat + 8 * b3.toNat + 16 * b4.toNat + 32 * b5.toNat).testBit 1 = b1 ∧ (b0.toNat + 2 * b1.toNat + 4 * b2.toNat + 8 * b3.toNat + 16 * b4.toNat + 32 * b5.toNat).testBit 2 = b2 ∧ (b0.toNat + 2 * b1.toNat + 4 * b2.toNat + 8 * b3.toNat + 16 * b4.toNat + 32 * b5.toNat).testBit 3 = b3 ∧ (b0.toNat + 2 * b1.toNat + 4 * b2.toNat + 8 * b3.toNat + 16 * b4.toNat + 32 * b5.toNat).testBit 4 = b4 ∧ (b0.toNat + 2 * b1.toNat + 4 * b2.toNat + 8 * b3.toNat + 16 * b4.toNat + 32 * b5.toNat).testBit 5 = b5 := by decide +kernel
  obtain ⟨z0, z1, z2, z3, z4, z5⟩ := z (f 0) (f 1) (f 2) (f 3) (f 4) (f 5)
  have hc : u = 0 ∨ u = 1 ∨ u = 2 ∨ u = 3 ∨ u = 4 ∨ u = 5 := by omega
  rcases hc with rfl | rfl | rfl | rfl | rfl | rfl <;> assumption
/-- whom a text names -/
theorem mmX_tb {l ns : List Nat} {a u : Nat} (hns : ∀ v ∈ ns, v < 6) (ha : a < 6) (hu : u < 6) : (mmX l ns a).testBit u = true ↔ ¬ a = u ∧ (mkB (fun v => decide (v ∈ ns))).testBit u = true ∧ lett l u := by
  unfold mmX
  rw [Nat.testBit_and, Nat.testBit_and, Bool.and_eq_true, Bool.and_eq_true, lmk_tb hu, bmk_tb, xor_tb a ha u hu, mkB_tb _ u hu, decide_eq_true_iff, decide_eq_true_iff]
  unfold lett
  exact ⟨fun ⟨⟨h1, h2⟩, h3⟩ => ⟨fun q => h3 q.symm, h2, h1⟩, fun ⟨h1, h2, h3⟩ => ⟨⟨h3, h2⟩, fun q => h1 q.symm⟩⟩
theorem mmX_lt {l ns : List Nat} {a : Nat} (hns : ∀ v ∈ ns, v < 6) (ha : a < 6) : mmX l ns a < 64 := mk_and_lt _ (mk_and_lt _ (lmk_lt l _) _ (bmk_l64 hns)) _ (mk_xor_lt _ (mk_p6 a ha))
abbrev s00 : gP := (0, 0, 0, fun _ => 0, fun _ => 0, fun _ => false)
def rpR (log : List gEv) (rd j : Nat) : gP := (log.filter (fun v => v.2.2.1 == nI j)).foldl (fun s v => rpS rd v s) s00
theorem rpR_sn (log : List gEv) (v : gEv) (rd j : Nat) : rpR (log ++ [v]) rd j = if v.2.2.1 = nI j then rpS rd v (rpR log rd j) else rpR log rd j := by
  unfold rpR
  rw [List.filter_append, List.filter_cons, List.filter_nil, List.foldl_append]
  by_cases h : v.2.2.1 = nI j
  · rw [if_pos h, if_pos (by rw [h]; exact beq_self_eq_true _)]
    rfl
  · rw [if_neg h, if_neg (by simpa using h)]
    rfl
theorem rpR_in {log : List gEv} {k : Nat} {a c : Int32} {l rd j : Nat} : rpR (log ++ [(k, a, nI j, c, l)]) rd j = rpS rd (k, a, nI j, c, l) (rpR log rd j) := by
  rw [rpR_sn]
  exact if_pos rfl
theorem rpR_out {log : List gEv} {k : Nat} {a c : Int32} {l rd j j0 : Nat} (h : j ≠ j0) (h1 : j < 1000) (h2 : j0 < 1000) : rpR (log ++ [(k, a, nI j0, c, l)]) rd j = rpR log rd j := by
  rw [rpR_sn]
  refine if_neg (fun z => ?_)
  have z2 : nI j0 = nI j := z
  rw [neq (by omega) (by omega)] at z2
  exact h z2.symm
theorem rpR_m1 {log : List gEv} {k : Nat} {a c : Int32} {l rd j : Nat} (h1 : j < 1000) : rpR (log ++ [(k, a, -1, c, l)]) rd j = rpR log rd j := by
  rw [rpR_sn]
  refine if_neg (fun z => ?_)
  have z2 : (-1 : Int32) = nI j := z
  have z3 := nneg1 (a := j) (by omega)
  rw [← z2] at z3
  simp at z3
/-- what a replay knows of a room -/
def rpI (x : gS) (j rd : Nat) : Prop := (rpR (g_log x) rd j).1 = (g_rms x j).length ∧ (rpR (g_log x) rd j).2.1 = bmk (g_mem x j) ∧ (rd ∈ g_mem x j → (rpR (g_log x) rd j).2.2.1 = g_mk x j rd) ∧ ∀ i m, (g_rms x j)[i]? = some m → (rpR (g_log x) rd j).2.2.2.1 i = g_au x m ∧ (rpR (g_log x) rd j).2.2.2.2.2 i = g_gone x m ∧ (g_gone x m = false → (rpR (g_log x) rd j).2.2.2.2.1 i = g_mm x m)
theorem rpF_all (x : gS) (rd j : Nat) : rpF x rd (nI j) (g_log x).length = rpR (g_log x) rd j := by
  unfold rpF rpR
  rw [List.take_length]
theorem unL_ok {x : gS} {i j : Nat} {b : Bool} (h : rpI x j i) (hm : i ∈ g_mem x j) : unL x i (nI j) b = unr x j i b := by
  obtain ⟨h1, h2, h3, h4⟩ := h
  unfold unL unr
  rw [rpF_all, h1, h3 hm]
  have e : g_rms x j = (List.range (g_rms x j).length).map (fun k => (g_rms x j).getD k 0) := by
    refine List.ext_getElem? (fun k => ?_)
    rw [List.getElem?_map]
    by_cases hk : k < (g_rms x j).length
    · rw [List.getElem?_range hk, List.getElem?_eq_getElem hk]
      show some _ = some ((g_rms x j).getD k 0)
      rw [List.getD_eq_getElem?_getD, List.getElem?_eq_getElem hk]
      rfl
    · rw [List.getElem?_eq_none (by omega), List.getElem?_eq_none (by rw [List.length_range]; omega)]
      rfl
  have e2 : ((g_rms x j).drop (g_mk x j i)).countP (unP x i b) = (((List.range (g_rms x j).length).map (fun k => (g_rms x j).getD k 0)).drop (g_mk x j i)).countP (unP x i b) := by rw [← e]
  rw [e2, ← List.map_drop, List.countP_map]
  refine List.countP_congr (fun k hk => ?_)
  have hk2 := List.mem_range.mp (List.mem_of_mem_drop hk)
  have hg := List.getElem?_eq_getElem hk2
  obtain ⟨a1, a2, a3⟩ := h4 k _ hg
  have hgd : (g_rms x j).getD k 0 = (g_rms x j)[k] := by rw [List.getD_eq_getElem?_getD, hg]; rfl
  show rpQ i _ b k = true ↔ unP x i b ((g_rms x j).getD k 0) = true
  unfold rpQ unP
  rw [hgd, a1, a2]
  cases hgn : g_gone x (g_rms x j)[k] with
  | true => exact Iff.rfl
  | false => rw [a3 hgn]
