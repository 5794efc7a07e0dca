/-! the class's constructor -/
def x0 : gS := (0, 0, 0, 0, 8, fun _ => 0, fun _ => 0, fun _ => [], fun _ => [], fun _ _ => 0, fun _ => [], fun _ => 0, fun _ => 0, fun _ => 0, fun _ => 0, fun _ => 0, fun _ => 0, fun _ => 0, fun _ => 0, fun _ => none, fun _ => [], fun _ => false, fun _ _ => false, [])
def ad0 (a q1 q2 q3 q4 q5 b c d : Nat) : Nat → Nat → Nat := fun k _ => [a, q1, q2, q3, q4, q5, b, c, d].getD k 0
theorem nd_ad {l : List Nat} (h : l.Nodup) {i j : Nat} (hi : i < l.length) (hj : j < l.length) (e : l.getD i 0 = l.getD j 0) : i = j := by
  have e1 : l[i] = l[j] := by
    rw [List.getD_eq_getElem?_getD, List.getD_eq_getElem?_getD, List.getElem?_eq_getElem hi, List.getElem?_eq_getElem hj] at e
    exact e
  exact (List.getElem_inj h).mp e1
theorem l_x0 {k i : Nat} (h : liveX x0 k i) : k < 9 ∧ i = 0 := by
  unfold liveX at h
  split at h
  all_goals first | exact ⟨by decide, h⟩ | exact absurd h (Nat.not_lt_zero _) | exact absurd h.1 (Nat.not_lt_zero _) | exact h.elim
theorem holdsX.ini {h : gH} {a q1 q2 q3 q4 q5 b c d : Nat} (hn : [a, q1, q2, q3, q4, q5, b, c, d].Nodup) (ha : h a = some (oX 9 [.ref q1, .ref q2, .ref q3, .ref q4, .ref q5, .int (nI 0), .int (nI 8)])) (h1 : h q1 = some (lX [])) (h2 : h q2 = some (lX [])) (h3 : h q3 = some (lX [])) (h4 : h q4 = some (lX [])) (h5 : ∃ r c0 m k : Int32, h q5 = some (oX 5 [.ref b, .ref c, .ref d, .int r, .int c0, .int m, .int k])) (h6 : ∃ f, h b = some (aX .int 60 f)) (h7 : ∃ f, h c = some (aX .int 60 f)) (h8 : ∃ f, h d = some (aX .boolean 60 f)) (he : gHasEd h) (hk : gHasK h) : holdsX h x0 (ad0 a q1 q2 q3 q4 q5 b c d) := by
  refine ⟨fun k i hl => ?_, fun k i k1 i1 hl hl1 e => ?_, he, hk⟩
  · obtain ⟨hk9, rfl⟩ := l_x0 hl
    have hc : k = 0 ∨ k = 1 ∨ k = 2 ∨ k = 3 ∨ k = 4 ∨ k = 5 ∨ k = 6 ∨ k = 7 ∨ k = 8 := by omega
    rcases hc with rfl | rfl | rfl | rfl | rfl | rfl | rfl | rfl | rfl
    · exact ⟨_, ha, rfl⟩
    · exact ⟨_, h1, rfl⟩
    · exact ⟨_, h2, rfl⟩
    · exact ⟨_, h3, rfl⟩
    · exact ⟨_, h4, rfl⟩
    · obtain ⟨r, c0, m, k, z⟩ := h5
      exact ⟨_, z, r, c0, m, k, rfl⟩
    · obtain ⟨f, z⟩ := h6
      exact ⟨_, z, f, rfl⟩
    · obtain ⟨f, z⟩ := h7
      exact ⟨_, z, f, rfl⟩
    · obtain ⟨f, z⟩ := h8
      exact ⟨_, z, f, rfl⟩
  · obtain ⟨hk9, rfl⟩ := l_x0 hl
    obtain ⟨hk91, rfl⟩ := l_x0 hl1
    exact ⟨nd_ad hn hk9 hk91 e, rfl⟩
