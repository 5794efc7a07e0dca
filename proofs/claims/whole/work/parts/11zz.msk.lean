/-! masks -/
/-- the letters named behind @ before place j, as bits -/
def lmk (l : List Nat) : Nat → Nat
  | 0 => 0
  | j + 1 => if 1 ≤ j ∧ l.getD (j - 1) 0 = 64 ∧ 97 ≤ l.getD j 0 ∧ l.getD j 0 < 103 then lmk l j ||| 2 ^ (l.getD j 0 - 97) else lmk l j
theorem msk_lt : ∀ a, a < 64 → ∀ u, u < 6 → a ||| 2 ^ u < 64 := by decide +kernel
theorem lmk_lt (l : List Nat) : ∀ j, lmk l j < 64
  | 0 => Nat.le_of_ble_eq_true rfl
  | j + 1 => by
    unfold lmk
    split
    · exact msk_lt _ (lmk_lt l j) _ (by omega)
    · exact lmk_lt l j
theorem lmk_1 (l : List Nat) : lmk l 1 = 0 := by
  unfold lmk
  rw [if_neg (fun q => absurd q.1 (by decide))]
  rfl
theorem mk_or : ∀ a, a < 64 → ∀ b, b < 64 → nI a ||| nI b = nI (a ||| b) := by decide +kernel
theorem mk_and : ∀ a, a < 64 → ∀ b, b < 64 → nI a &&& nI b = nI (a &&& b) := by decide +kernel
theorem mk_not : ∀ b, b < 64 → ∀ a, a < 64 → nI a &&& (nI b ^^^ (-1)) = nI (a &&& (63 ^^^ b)) := by decide +kernel
theorem mk_shl : ∀ u, u < 6 → nI 1 <<< (nI u &&& 31) = nI (2 ^ u) := by decide +kernel
theorem mk_shr : ∀ u, u < 6 → ∀ a, a < 64 → (nI a >>> (nI u &&& 31)) &&& nI 1 = nI (a.testBit u).toNat := by decide +kernel
theorem mk_p6 : ∀ u, u < 6 → 2 ^ u < 64 := by decide +kernel
theorem mk_and_lt : ∀ a, a < 64 → ∀ b, b < 64 → a &&& b < 64 := by decide +kernel
theorem mk_xor_lt : ∀ a, a < 64 → 63 ^^^ a < 64 := by decide +kernel
/-! writes that are written over -/
theorem gset_d2 {h : gH} {a b : Nat} {e e1 e2 : gE} (h1 : a ≠ b) : gset (gset (gset h a e) b e1) a e2 = gset (gset h b e1) a e2 := by
  rw [gset_comm h1, gset_gset]
theorem gset_d3 {h : gH} {a b c : Nat} {e e1 e2 e3 : gE} (h1 : a ≠ b) (h2 : a ≠ c) : gset (gset (gset (gset h a e) b e1) c e2) a e3 = gset (gset (gset h b e1) c e2) a e3 := by
  rw [gset_comm h1, gset_d2 h2]
theorem gset_d4 {h : gH} {a b c d : Nat} {e e1 e2 e3 e4 : gE} (h1 : a ≠ b) (h2 : a ≠ c) (h3 : a ≠ d) : gset (gset (gset (gset (gset h a e) b e1) c e2) d e3) a e4 = gset (gset (gset (gset h b e1) c e2) d e3) a e4 := by
  rw [gset_comm h1, gset_d3 h2 h3]
