/-! floats and doubles, by their definitions -/
theorem nr_ge {a b X : Nat} (hb : 0 < b) (h : X * b ≤ a) : X ≤ FP.Core.nearest a b := by
  have h1 : X ≤ a / b := (Nat.le_div_iff_mul_le hb).mpr h
  unfold FP.Core.nearest
  split
  · exact h1
  · split <;> omega
theorem nr_le {a b Y : Nat} (hb : 0 < b) (h : a ≤ Y * b) : FP.Core.nearest a b ≤ Y := by
  have h1 : a / b ≤ Y := Nat.div_le_of_le_mul (by rw [Nat.mul_comm]; exact h)
  have h2 := Nat.div_add_mod a b
  unfold FP.Core.nearest
  by_cases hy : a / b = Y
  · have h3 : a % b = 0 := by
      rw [hy, Nat.mul_comm b Y] at h2
      omega
    rw [h3, if_pos (by omega)]
    exact h1
  · split
    · exact h1
    · split <;> omega
theorem nr_ex {b : Nat} (M : Nat) (hb : 0 < b) : FP.Core.nearest (M * b) b = M := Nat.le_antisymm (nr_le hb (Nat.le_refl _)) (nr_ge hb (Nat.le_refl _))
theorem lg_eq {n L : Nat} (h1 : 2 ^ L ≤ n) (h2 : n < 2 ^ (L + 1)) : n.log2 = L := (Nat.log2_eq_iff (by have := Nat.two_pow_pos L; omega)).mpr ⟨h1, h2⟩
theorem lg_mul {n L j : Nat} (h1 : 2 ^ L ≤ n) (h2 : n < 2 ^ (L + 1)) : (n * 2 ^ j).log2 = L + j := by
  refine lg_eq ?_ ?_
  · rw [Nat.pow_add]
    exact Nat.mul_le_mul_right _ h1
  · rw [show L + j + 1 = (L + 1) + j by omega, Nat.pow_add]
    exact Nat.mul_lt_mul_of_pos_right h2 (Nat.two_pow_pos j)
theorem ld_1 {n L j : Nat} (h1 : 2 ^ L ≤ n) (h2 : n < 2 ^ (L + 1)) : FP.Core.leading (n * 2 ^ j) 1 = ((L + j : Nat) : Int) := by
  unfold FP.Core.leading
  rw [lg_mul h1 h2, show Nat.log2 1 = 0 from by decide +kernel]
  dsimp only
  rw [if_pos]
  · simp
  · rw [show (((L + j : Nat) : Int) - ((0 : Nat) : Int)).toNat = L + j by omega, show (-(((L + j : Nat) : Int) - ((0 : Nat) : Int))).toNat = 0 by omega, Nat.pow_zero, Nat.mul_one, Nat.one_mul, Nat.pow_add]
    exact Nat.mul_le_mul_right _ h1
/-- a number of few digits is kept -/
theorem RRs (f : FP.Core.Fmt) (P : Nat) (hp : f.p = P + 1) (s : Bool) {n j L : Nat} {e : Int} (h1 : 2 ^ L ≤ n) (h2 : n < 2 ^ (L + 1)) (hL : L ≤ P) (q1 : f.qmin ≤ (L : Int) + e + j - P) (q2 : (L : Int) + e + j - P ≤ f.qmax) : FP.Core.roundRatio f s (n * 2 ^ j) 1 e = .fin s (n * 2 ^ (P - L)) ((L : Int) + e + j - P) := by
  have hn : n * 2 ^ j ≠ 0 := by
    have a := Nat.two_pow_pos L
    have b := Nat.two_pow_pos j
    exact Nat.mul_ne_zero (by omega) (by omega)
  unfold FP.Core.roundRatio
  rw [if_neg hn]
  have hq : FP.Core.quantum f (n * 2 ^ j) 1 e = (L : Int) + e + j - P := by
    unfold FP.Core.quantum
    rw [ld_1 h1 h2, hp]
    omega
  rw [hq]
  unfold FP.Core.roundAt
  have hne : FP.Core.nearest (FP.Core.unitsNum (n * 2 ^ j) e ((L : Int) + e + j - P)) (FP.Core.unitsDen 1 e ((L : Int) + e + j - P)) = n * 2 ^ (P - L) := by
    unfold FP.Core.unitsNum FP.Core.unitsDen
    by_cases hc : L + j ≤ P
    · rw [show (e - ((L : Int) + e + j - P)).toNat = P - (L + j) by omega, show ((L : Int) + e + j - P - e).toNat = 0 by omega, Nat.pow_zero, Nat.mul_one]
      have := nr_ex (b := 1) (n * 2 ^ j * 2 ^ (P - (L + j))) (by decide)
      rw [Nat.mul_one] at this
      rw [this, Nat.mul_assoc, ← Nat.pow_add, show j + (P - (L + j)) = P - L by omega]
    · rw [show (e - ((L : Int) + e + j - P)).toNat = 0 by omega, show ((L : Int) + e + j - P - e).toNat = L + j - P by omega, Nat.pow_zero, Nat.mul_one, Nat.one_mul]
      rw [show n * 2 ^ j = n * 2 ^ (P - L) * 2 ^ (L + j - P) from by rw [Nat.mul_assoc, ← Nat.pow_add, show P - L + (L + j - P) = j by omega]]
      exact nr_ex _ (Nat.two_pow_pos _)
  rw [hne]
  unfold FP.Core.settle FP.Core.bound
  rw [if_pos, if_pos q2]
  rw [hp, show P + 1 = (L + 1) + (P - L) by omega, Nat.pow_add]
  exact Nat.mul_lt_mul_of_pos_right h2 (Nat.two_pow_pos _)
/-- the same, with the significand as it stands -/
theorem RRc (f : FP.Core.Fmt) (P : Nat) (hp : f.p = P + 1) (s : Bool) {c j : Nat} {e q : Int} (h1 : 2 ^ P ≤ c) (h2 : c < 2 ^ (P + 1)) (hq : q = e + j) (q1 : f.qmin ≤ q) (q2 : q ≤ f.qmax) : FP.Core.roundRatio f s (c * 2 ^ j) 1 e = .fin s c q := by
  have h := RRs f P hp s (j := j) (e := e) h1 h2 (Nat.le_refl _) (by omega) (by omega)
  rw [Nat.sub_self, Nat.pow_zero, Nat.mul_one, show (P : Int) + e + j - P = q by omega] at h
  exact h
/-- halves: a significand over 2^P -/
theorem RRd (f : FP.Core.Fmt) (P : Nat) (hp : f.p = P + 1) (s : Bool) {c : Nat} {e q : Int} (h1 : 2 ^ P ≤ c) (h2 : c < 2 ^ (P + 1)) (hq : q = e - P) (q1 : f.qmin ≤ q) (q2 : q ≤ f.qmax) : FP.Core.roundRatio f s c (2 ^ P) e = .fin s c q := by
  have hc0 : c ≠ 0 := by
    have a := Nat.two_pow_pos P
    omega
  unfold FP.Core.roundRatio
  rw [if_neg hc0]
  have hl : FP.Core.leading c (2 ^ P) = 0 := by
    unfold FP.Core.leading
    rw [lg_eq h1 h2, Nat.log2_two_pow]
    dsimp only
    rw [if_pos]
    · omega
    · rw [show ((P : Int) - (P : Int)).toNat = 0 by omega, show (-((P : Int) - (P : Int))).toNat = 0 by omega, Nat.pow_zero, Nat.mul_one, Nat.mul_one]
      exact h1
  have hqm : FP.Core.quantum f c (2 ^ P) e = q := by
    unfold FP.Core.quantum
    rw [hl, hp]
    omega
  rw [hqm]
  unfold FP.Core.roundAt
  have hne : FP.Core.nearest (FP.Core.unitsNum c e q) (FP.Core.unitsDen (2 ^ P) e q) = c := by
    unfold FP.Core.unitsNum FP.Core.unitsDen
    rw [show (e - q).toNat = P by omega, show (q - e).toNat = 0 by omega, Nat.pow_zero, Nat.mul_one]
    exact nr_ex _ (Nat.two_pow_pos _)
  rw [hne]
  unfold FP.Core.settle FP.Core.bound
  rw [hp, if_pos h2, if_pos q2]
/-- normal and positive, its exponent within bounds -/
def N64 (lo hi : Int) (d : FP.Core.Datum) : Prop := ∃ (c : Nat) (q : Int), d = .fin false c q ∧ 2 ^ 52 ≤ c ∧ c < 2 ^ 53 ∧ lo ≤ q ∧ q ≤ hi
theorem b64_p : FP.Core.b64.p = 52 + 1 := rfl
theorem b32_p : FP.Core.b32.p = 23 + 1 := rfl
theorem b64_qmin : FP.Core.b64.qmin = -1074 := by decide +kernel
theorem b64_qmax : FP.Core.b64.qmax = 971 := by decide +kernel
theorem b32_qmin : FP.Core.b32.qmin = -149 := by decide +kernel
theorem b32_qmax : FP.Core.b32.qmax = 104 := by decide +kernel
theorem b64_tails : FP.Core.b64.tails = 4503599627370496 := by decide +kernel
theorem b64_exps : FP.Core.b64.exps = 2048 := by decide +kernel
theorem b32_tails : FP.Core.b32.tails = 8388608 := by decide +kernel
theorem b32_exps : FP.Core.b32.exps = 256 := by decide +kernel
theorem st64 {c : Nat} {q lo hi : Int} (h1 : 2 ^ 52 ≤ c) (h2 : c ≤ 2 ^ 53) (q1 : lo ≤ q) (q2 : q + 1 ≤ hi) (q3 : hi ≤ 971) : N64 lo hi (FP.Core.settle FP.Core.b64 false c q) := by
  unfold FP.Core.settle FP.Core.bound
  rw [b64_p, b64_qmax, b64_tails]
  split
  · rename_i h
    rw [if_pos (by omega)]
    exact ⟨c, q, rfl, h1, h, q1, by omega⟩
  · rw [if_pos (by omega)]
    exact ⟨4503599627370496, q + 1, rfl, by decide, by decide, by omega, q2⟩
/-- a sum, rounded -/
theorem RG1 {S M : Nat} {e lo hi : Int} (h1 : 2 ^ M ≤ S) (h2 : S < 2 ^ (M + 1)) (hM : 52 ≤ M) (q0 : -1074 ≤ (M : Int) + e - 52) (q1 : lo ≤ (M : Int) + e - 52) (q2 : (M : Int) + e - 51 ≤ hi) (q3 : hi ≤ 971) : N64 lo hi (FP.Core.roundRatio FP.Core.b64 false S 1 e) := by
  have hS : S ≠ 0 := by
    have a := Nat.two_pow_pos M
    omega
  have hl := ld_1 (j := 0) h1 h2
  rw [Nat.pow_zero, Nat.mul_one, Nat.add_zero] at hl
  unfold FP.Core.roundRatio
  rw [if_neg hS]
  have hqm : FP.Core.quantum FP.Core.b64 S 1 e = (M : Int) + e - 52 := by
    unfold FP.Core.quantum
    rw [hl, b64_p, b64_qmin]
    omega
  rw [hqm]
  unfold FP.Core.roundAt FP.Core.unitsNum FP.Core.unitsDen
  rw [show (e - ((M : Int) + e - 52)).toNat = 0 by omega, show ((M : Int) + e - 52 - e).toNat = M - 52 by omega, Nat.pow_zero, Nat.mul_one, Nat.one_mul]
  refine st64 (nr_ge (Nat.two_pow_pos _) ?_) (nr_le (Nat.two_pow_pos _) ?_) q1 (by omega) q3
  · rw [← Nat.pow_add, show 52 + (M - 52) = M by omega]
    exact h1
  · rw [← Nat.pow_add, show 53 + (M - 52) = M + 1 by omega]
    omega
/-- 1 over a significand, rounded -/
theorem RG2 {c : Nat} {e lo hi : Int} (h1 : 2 ^ 52 ≤ c) (h2 : c < 2 ^ 53) (q0 : -1021 ≤ e - 53) (q1 : lo ≤ e - 53) (q2 : e - 51 ≤ hi) (q3 : hi ≤ 971) : N64 lo hi (FP.Core.roundRatio FP.Core.b64 false (2 ^ 52) c e) := by
  unfold FP.Core.roundRatio
  rw [if_neg (by decide)]
  have hl : FP.Core.leading (2 ^ 52) c = if c ≤ 2 ^ 52 then 0 else -1 := by
    unfold FP.Core.leading
    rw [lg_eq h1 h2, Nat.log2_two_pow]
    dsimp only
    rw [show (((52 : Nat) : Int) - ((52 : Nat) : Int)).toNat = 0 from by decide, show (-(((52 : Nat) : Int) - ((52 : Nat) : Int))).toNat = 0 from by decide, Nat.pow_zero, Nat.mul_one, Nat.mul_one, show ((52 : Nat) : Int) - ((52 : Nat) : Int) = 0 from by decide]
    split <;> rfl
  have hqm : FP.Core.quantum FP.Core.b64 (2 ^ 52) c e = if c ≤ 2 ^ 52 then e - 52 else e - 53 := by
    unfold FP.Core.quantum
    rw [hl, b64_p, b64_qmin]
    split <;> omega
  rw [hqm]
  unfold FP.Core.roundAt FP.Core.unitsNum FP.Core.unitsDen
  by_cases hc : c ≤ 2 ^ 52
  · have hce : c = 2 ^ 52 := by omega
    rw [if_pos hc, show (e - (e - 52)).toNat = 52 by omega, show (e - 52 - e).toNat = 0 by omega, Nat.pow_zero, Nat.mul_one, hce]
    refine st64 (nr_ge (by decide) (by decide)) (nr_le (by decide) (by decide)) (by omega) (by omega) q3
  · rw [if_neg hc, show (e - (e - 53)).toNat = 53 by omega, show (e - 53 - e).toNat = 0 by omega, Nat.pow_zero, Nat.mul_one]
    refine st64 (nr_ge (by omega) ?_) (nr_le (by omega) ?_) q1 (by omega) q3
    · omega
    · omega
