/-! numbers -/
theorem nlt {a b : Nat} (ha : a < 2147483648) (hb : b < 2147483648) : (nI a < nI b) = (a < b) := propext (nI_ltI ha hb)
theorem nle {a b : Nat} (ha : a < 2147483648) (hb : b < 2147483648) : (nI a ≤ nI b) = (a ≤ b) := propext (nI_leI ha hb)
theorem neq {a b : Nat} (ha : a < 2147483648) (hb : b < 2147483648) : (nI a = nI b) = (a = b) := propext (nI_eq ha hb)
theorem nlt0 {a : Nat} (ha : a < 2147483648) : (nI a < 0) = False := eq_false (nI_pos ha)
theorem ngt0 {a : Nat} (ha : a < 2147483648) : ((0 : Int32) < nI a) = (0 < a) := propext (nI_ltI (a := 0) (by omega) ha)
theorem nle0 {a : Nat} (ha : a < 2147483648) : (nI a ≤ 0) = (a = 0) := propext ((nI_leI (b := 0) ha (by omega)).trans Nat.le_zero)
theorem nge0 {a : Nat} (ha : a < 2147483648) : ((0 : Int32) ≤ nI a) = True := eq_true (nI_pos' ha)
theorem neq0 {a : Nat} (ha : a < 2147483648) : (nI a = 0) = (a = 0) := nI_e0 ha
theorem nsub {a b : Nat} (h : b ≤ a) : nI a - nI b = nI (a - b) := pk_sub h
theorem npred {a : Nat} (h : 1 ≤ a) : nI a + (-1) = nI (a - 1) := by
  obtain ⟨b, rfl⟩ : ∃ b, a = b + 1 := ⟨a - 1, by omega⟩
  exact pk_m1 b
theorem nneg1 {a : Nat} (ha : a < 2147483648) : (nI a = -1) = False := eq_false (fun q => nI_pos ha (by rw [q]; decide +kernel))
theorem vnarc {q : Nat} (hq : q < 65536) : vp_nar .char (nI q) = nI q := Value.int.inj (pk_charN hq).1
theorem narc {q : Nat} (hq : q < 65536) : narrow .char (.int (nI q)) = .int (nI q) := (pk_charN hq).1
theorem gix_nle {n : Nat} {u : Int32} (hn : n < 2147483647) (h : gix (n + 1) u = none) (h0 : ¬ u < 0) : ¬ u ≤ nI n := fun q => by
  obtain ⟨k, hk, rfl⟩ := nI_of h0
  rw [nle (by omega) (by omega)] at q
  rw [gix_nI (by omega) (by omega)] at h
  cases h
theorem gix_gt {n : Nat} {u : Int32} (hn : n < 2147483648) (h : gix n u = none) (h0 : ¬ u < 0) : ¬ u < nI n := fun q => by
  obtain ⟨k, hk, rfl⟩ := nI_of h0
  rw [nlt (by omega) (by omega)] at q
  rw [gix_nI (by omega) (by omega)] at h
  cases h
theorem gix_ge {n : Nat} {u : Int32} (hn : n < 2147483648) (h : gix n u = none) (h0 : ¬ u < 0) : nI n ≤ u := by
  rcases gix_none h with q | q
  · exact absurd q h0
  · exact q
abbrev eNSE : String := "java/util/NoSuchElementException"
abbrev eISE : String := "java/lang/IllegalStateException"
abbrev eIAE : String := "java/lang/IllegalArgumentException"
abbrev eIOB : String := "java/lang/IndexOutOfBoundsException"
abbrev eUOE : String := "java/lang/UnsupportedOperationException"
abbrev eAE : String := "java/lang/ArithmeticException"
/-- a code that a draft takes -/
def gcd (c : Int32) : Option Nat := if c < nI 32 ∨ nI 126 < c then none else some c.toNatClampNeg
theorem gcd_none {c : Int32} (h : gcd c = none) : c < nI 32 ∨ nI 126 < c := by
  unfold gcd at h
  split at h
  · assumption
  · cases h
theorem gcd_some {c : Int32} {k : Nat} (h : gcd c = some k) : 32 ≤ k ∧ k ≤ 126 ∧ c = nI k := by
  unfold gcd at h
  split at h
  · cases h
  · rename_i hu
    cases h
    have h1 : ¬ c < 0 := fun q => hu (Or.inl (Int32.lt_trans q (by decide +kernel)))
    obtain ⟨k, hk, rfl⟩ := nI_of h1
    rw [nlt (by omega) (by omega), nlt (by omega) (by omega)] at hu
    rw [ncl (by omega)]
    exact ⟨by omega, by omega, rfl⟩
/-- put into a text -/
def insL (l : List Nat) (k c : Nat) : List Nat := l.take k ++ c :: l.drop k
theorem insL_len {l : List Nat} {k c : Nat} : (insL l k c).length = l.length + 1 := by
  unfold insL
  rw [List.length_append, List.length_take, List.length_cons, List.length_drop]
  omega
theorem insL_get {l : List Nat} {k c : Nat} (hk : k ≤ l.length) (p : Nat) : (insL l k c).getD p 0 = if p < k then l.getD p 0 else if p = k then c else l.getD (p - 1) 0 := by
  unfold insL
  have hl : (l.take k).length = k := by rw [List.length_take]; omega
  simp only [List.getD_eq_getElem?_getD]
  split
  · rw [List.getElem?_append_left (by omega), List.getElem?_take_of_lt (by assumption)]
  · rename_i h1
    rw [List.getElem?_append_right (by omega), hl]
    split
    · rename_i h2
      subst h2
      rw [Nat.sub_self, List.getElem?_cons_zero]
      rfl
    · rename_i h2
      obtain ⟨q, hq⟩ : ∃ q, p - k = q + 1 := ⟨p - k - 1, by omega⟩
      rw [hq, List.getElem?_cons_succ, List.getElem?_drop]
      congr 2
      omega
