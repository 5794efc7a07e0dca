/-- a room's messages among the first -/
def flt (x : gS) (r j : Nat) : List Nat := (List.range j).filter (fun m => g_rm x m == r)
theorem flt_in {x : gS} {r j : Nat} (h : g_rm x j = r) : flt x r (j + 1) = flt x r j ++ [j] := by
  unfold flt
  rw [List.range_succ, List.filter_append, List.filter_cons, List.filter_nil, if_pos (by rw [h]; exact beq_self_eq_true r)]
theorem flt_out {x : gS} {r j : Nat} (h : ¬ g_rm x j = r) : flt x r (j + 1) = flt x r j := by
  unfold flt
  rw [List.range_succ, List.filter_append, List.filter_cons, List.filter_nil, if_neg (by simpa using h), List.append_nil]
theorem flt_len {x : gS} {r j : Nat} : (flt x r j).length ≤ j := by
  unfold flt
  have := List.length_filter_le (fun m => g_rm x m == r) (List.range j)
  rwa [List.length_range] at this
theorem drp_sn {l : List Nat} {k v : Nat} (p : Nat → Bool) : ((l ++ [v]).drop k).countP p = (l.drop k).countP p + (decide (k ≤ l.length) && p v).toNat := by
  by_cases h : k ≤ l.length
  · rw [List.drop_append_of_le_length h, cp_sn, decide_eq_true h, Bool.true_and]
  · rw [List.drop_eq_nil_of_le (by rw [List.length_append, List.length_singleton]; omega), List.drop_eq_nil_of_le (by omega), decide_eq_false h, Bool.false_and]
    rfl
