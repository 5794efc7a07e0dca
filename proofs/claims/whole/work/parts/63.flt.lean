/-! floats: tokens -/
def fv (a : UInt32) : FP.Core.Datum := FP.Core.decode FP.Core.b32 a.toNat
def mkS (E T : Nat) : UInt32 := UInt32.ofNat (E * 8388608 + T)
theorem mkS_nat {E T : Nat} (h1 : E ≤ 254) (h2 : T < 8388608) : (mkS E T).toNat = E * 8388608 + T := by
  unfold mkS
  exact UInt32.toNat_ofNat_of_lt' (by show E * 8388608 + T < 4294967296; omega)
theorem fvS {E T : Nat} (h0 : 1 ≤ E) (h1 : E ≤ 254) (h2 : T < 8388608) : fv (mkS E T) = .fin false (8388608 + T) ((E : Int) - 150) := by
  unfold fv
  rw [mkS_nat h1 h2]
  unfold FP.Core.decode FP.Core.fieldE FP.Core.fieldT FP.Core.fieldS
  rw [b32_tails, b32_exps, b32_qmin]
  have e1 : (E * 8388608 + T) / 8388608 = E := by omega
  have e2 : (E * 8388608 + T) % 8388608 = T := by omega
  rw [e1, e2, Nat.mod_eq_of_lt (show E < 256 by omega), if_neg (by omega), if_neg (by omega), show E / 256 = 0 by omega]
  congr 1
  omega
theorem encS {c : Nat} {q : Int} (h1 : 2 ^ 23 ≤ c) (h2 : c < 2 ^ 24) (q1 : -149 ≤ q) : UInt32.ofNat (FP.Core.encode FP.Core.b32 (.fin false c q)) = mkS (q + 150).toNat (c - 8388608) := by
  unfold mkS
  rw [enc_fin, b32_tails, b32_qmin, if_neg (by omega)]
  unfold FP.Core.assemble
  rw [b32_tails, b32_exps, show (q - (-149)).toNat + 1 = (q + 150).toNat by omega]
  simp
/-- the float of n * 2^e -/
def dy (n : Nat) (e : Int) : FP.Core.Datum := .fin false (n * 2 ^ (23 - n.log2)) ((n.log2 : Int) + e - 23)
def dyB (n : Nat) (e : Int) : UInt32 := UInt32.ofNat (FP.Core.encode FP.Core.b32 (dy n e))
theorem dy_c {n : Nat} (h : 1 ≤ n) (h2 : n < 16777216) : 2 ^ 23 ≤ n * 2 ^ (23 - n.log2) ∧ n * 2 ^ (23 - n.log2) < 2 ^ 24 ∧ n.log2 < 24 ∧ 2 ^ n.log2 ≤ n ∧ n < 2 ^ (n.log2 + 1) := by
  have l1 : 2 ^ n.log2 ≤ n := Nat.log2_self_le (by omega)
  have l2 : n < 2 ^ (n.log2 + 1) := Nat.lt_log2_self
  have l3 : n.log2 < 24 := (Nat.log2_lt (by omega)).mpr h2
  generalize n.log2 = L at l1 l2 l3
  refine ⟨?_, ?_, l3, l1, l2⟩
  · have z := Nat.mul_le_mul_right (2 ^ (23 - L)) l1
    rw [← Nat.pow_add, show L + (23 - L) = 23 by omega] at z
    exact z
  · have z := Nat.mul_lt_mul_of_pos_right l2 (Nat.two_pow_pos (23 - L))
    rw [← Nat.pow_add, show L + 1 + (23 - L) = 24 by omega] at z
    exact z
theorem dy_b {n : Nat} {e : Int} (h : 1 ≤ n) (h2 : n < 16777216) (e1 : -100 ≤ e) (e2 : e ≤ 50) : fv (dyB n e) = dy n e ∧ vf_n32 (dyB n e) := by
  obtain ⟨c1, c2, c3, -⟩ := dy_c h h2
  unfold dyB dy
  generalize n.log2 = L at c1 c2 c3
  rw [encS c1 c2 (by omega)]
  refine ⟨?_, ?_⟩
  · rw [fvS (by omega) (by omega) (by omega)]
    exact fin_eq (by omega) (by omega)
  · unfold vf_n32
    rw [UInt32.le_iff_toNat_le, UInt32.toNat_and, mkS_nat (by omega) (by omega), show (0x7fffffff : UInt32).toNat = 2 ^ 31 - 1 from by decide +kernel, Nat.and_two_pow_sub_one_eq_mod, show (0x7f800000 : UInt32).toNat = 2139095040 from by decide +kernel]
    omega
theorem dy_r {n j : Nat} {e e0 : Int} (h : 1 ≤ n) (h2 : n < 16777216) (he : e0 = e + j) (e1 : -100 ≤ e0) (e2 : e0 ≤ 50) : FP.Core.roundRatio FP.Core.b32 false (n * 2 ^ j) 1 e = dy n e0 := by
  obtain ⟨-, -, c3, l1, l2⟩ := dy_c h h2
  unfold dy
  generalize n.log2 = L at c3 l1 l2
  rw [RRs FP.Core.b32 23 b32_p false l1 l2 (by omega) (by rw [b32_qmin]; omega) (by rw [b32_qmax]; omega)]
  exact fin_eq rfl (by omega)
theorem i2f_v {k : Nat} (h : 1 ≤ k) (h2 : k < 16777216) : FP.i2f (nI k) = dyB k 0 := by
  show UInt32.ofNat (FP.Core.encode FP.Core.b32 (FP.Core.roundRatio FP.Core.b32 (decide ((nI k).toInt < 0)) (nI k).toInt.natAbs 1 0)) = _
  rw [nI_toInt (by omega), decide_eq_false (by omega), Int.natAbs_natCast]
  have r := dy_r (j := 0) (e := 0) (e0 := 0) h h2 (by omega) (by omega) (by omega)
  rw [Nat.pow_zero, Nat.mul_one] at r
  rw [r]
  rfl
theorem fv64 : fv 1115684864 = .fin false 8388608 (-17) := by decide +kernel
theorem tk_v {k : Nat} (h : 1 ≤ k) (h2 : k < 16777216) : tkV k = dyB k (-6) := by
  unfold tkV
  have e : FP.fdiv (FP.i2f (nI k)) 1115684864 = UInt32.ofNat (FP.Core.encode FP.Core.b32 (FP.Core.quotient FP.Core.b32 (fv (FP.i2f (nI k))) (fv 1115684864))) := rfl
  rw [e, i2f_v h h2, (dy_b h h2 (by omega) (by omega)).1, fv64]
  obtain ⟨c1, c2, c3, -⟩ := dy_c h h2
  unfold dyB dy
  generalize k.log2 = L at c1 c2 c3
  rw [quo_fin, if_neg (by decide), ff_f, show (8388608 : Nat) = 2 ^ 23 from by decide, RRd FP.Core.b32 23 b32_p false (q := (L : Int) + -6 - 23) c1 c2 (by omega) (by rw [b32_qmin]; omega) (by rw [b32_qmax]; omega)]
theorem fadd_e (a b : UInt32) : FP.fadd a b = UInt32.ofNat (FP.Core.encode FP.Core.b32 (FP.Core.round FP.Core.b32 (FP.Core.exactSum (fv a) (fv b)))) := rfl
theorem tk_0 : tkV 0 = 0 := by decide +kernel
theorem fv_0 : fv 0 = .fin false 0 (-149) := by decide +kernel
theorem tk_add0 : ∀ a, a < 257 → FP.fadd (tkV a) (tkV 0) = tkV a := by decide +kernel
theorem tk_add {a b : Nat} (ha : a < 257) (hb : b < 100000) : FP.fadd (tkV a) (tkV b) = tkV (a + b) := by
  by_cases hb0 : b = 0
  · rw [hb0, tk_add0 a ha]
    rfl
  by_cases ha0 : a = 0
  · rw [ha0, Nat.zero_add, fadd_e, tk_0, fv_0, tk_v (by omega) (by omega), (dy_b (by omega) (by omega) (by omega) (by omega)).1]
    have c := dy_c (n := b) (by omega) (by omega)
    unfold dyB
    have hd : dy b (-6) = .fin false (b * 2 ^ (23 - b.log2)) ((b.log2 : Int) + -6 - 23) := rfl
    have r := dy_r (n := b) (j := (23 - b.log2) + ((b.log2 : Int) + -6 - 23 - (-149)).toNat) (e := -149) (e0 := -6) (by omega) (by omega) (by omega) (by omega) (by omega)
    have hs : FP.Core.round FP.Core.b32 (FP.Core.exactSum (.fin false 0 (-149)) (dy b (-6))) = dy b (-6) := by
      rw [hd, sum_ff]
      unfold FP.Core.inUnits
      rw [rnd_fin, show min (-149 : Int) ((b.log2 : Int) + -6 - 23) = -149 by omega, Nat.zero_mul, Nat.zero_add, Nat.mul_assoc, ← Nat.pow_add]
      exact r.trans hd
    rw [hs]
  · rw [fadd_e, tk_v (k := a) (by omega) (by omega), tk_v (k := b) (by omega) (by omega), tk_v (k := a + b) (by omega) (by omega), (dy_b (by omega) (by omega) (by omega) (by omega)).1, (dy_b (by omega) (by omega) (by omega) (by omega)).1]
    have c := dy_c (n := a) (by omega) (by omega)
    have d := dy_c (n := b) (by omega) (by omega)
    have hA : dy a (-6) = .fin false (a * 2 ^ (23 - a.log2)) ((a.log2 : Int) + -6 - 23) := rfl
    have hB : dy b (-6) = .fin false (b * 2 ^ (23 - b.log2)) ((b.log2 : Int) + -6 - 23) := rfl
    unfold dyB
    have r := dy_r (n := a + b) (j := 23 - min a.log2 b.log2) (e := ((min a.log2 b.log2 : Nat) : Int) - 29) (e0 := -6) (by omega) (by omega) (by omega) (by omega) (by omega)
    rw [← r, hA, hB, sum_ff]
    unfold FP.Core.inUnits
    have hm : min ((a.log2 : Int) + -6 - 23) ((b.log2 : Int) + -6 - 23) = ((min a.log2 b.log2 : Nat) : Int) - 29 := by omega
    rw [rnd_fin, hm, Nat.mul_assoc, Nat.mul_assoc, ← Nat.pow_add, ← Nat.pow_add, show 23 - a.log2 + ((a.log2 : Int) + -6 - 23 - (((min a.log2 b.log2 : Nat) : Int) - 29)).toNat = 23 - min a.log2 b.log2 by omega, show 23 - b.log2 + ((b.log2 : Int) + -6 - 23 - (((min a.log2 b.log2 : Nat) : Int) - 29)).toNat = 23 - min a.log2 b.log2 by omega, ← Nat.add_mul]
theorem tk_n {k : Nat} (h : k < 100000) : vf_n32 (tkV k) := by
  by_cases h0 : k = 0
  · rw [h0]
    unfold vf_n32
    decide +kernel
  · rw [tk_v (by omega) (by omega)]
    exact (dy_b (by omega) (by omega) (by omega) (by omega)).2
theorem tk_256 : (1082130432 : UInt32) = tkV 256 := by decide +kernel
theorem fv_256 : fv 1082130432 = .fin false 8388608 (-21) := by decide +kernel
theorem tk_cmp {k : Nat} (h : k < 100000) : FP.fcmp (tkV k) 1082130432 = if k < 256 then some .lt else if k = 256 then some .eq else some .gt := by
  by_cases h0 : k = 0
  · rw [h0]
    decide +kernel
  · have e : FP.fcmp (tkV k) 1082130432 = FP.Core.order (fv (tkV k)) (fv 1082130432) := rfl
    rw [e, fv_256, tk_v (by omega) (by omega), (dy_b (by omega) (by omega) (by omega) (by omega)).1]
    have c := dy_c (n := k) (by omega) (by omega)
    unfold dy FP.Core.order FP.Core.signed FP.Core.inUnits
    simp only [Bool.false_eq_true, if_false]
    rw [cmp_int]
    generalize k.log2 = L at c
    have e1 : k * 2 ^ (23 - L) * 2 ^ ((L : Int) + -6 - 23 - min ((L : Int) + -6 - 23) (-21)).toNat = k * 2 ^ (23 - min L 8) := by
      rw [Nat.mul_assoc, ← Nat.pow_add, show 23 - L + ((L : Int) + -6 - 23 - min ((L : Int) + -6 - 23) (-21)).toNat = 23 - min L 8 by omega]
    have e2 : 8388608 * 2 ^ ((-21 : Int) - min ((L : Int) + -6 - 23) (-21)).toNat = 256 * 2 ^ (23 - min L 8) := by
      rw [show (8388608 : Nat) = 256 * 2 ^ 15 from by decide, Nat.mul_assoc, ← Nat.pow_add, show 15 + ((-21 : Int) - min ((L : Int) + -6 - 23) (-21)).toNat = 23 - min L 8 by omega]
    rw [e1, e2]
    have p := Nat.two_pow_pos (23 - min L 8)
    generalize 2 ^ (23 - min L 8) = w at p
    by_cases h1 : k < 256
    · rw [if_pos h1, if_pos (Nat.mul_lt_mul_of_pos_right h1 p)]
    · have h2 : 256 * w ≤ k * w := Nat.mul_le_mul_right _ (by omega)
      rw [if_neg h1, if_neg (by omega)]
      by_cases h3 : k = 256
      · rw [if_pos h3, h3, if_pos rfl]
      · have h4 : 256 * w < k * w := Nat.mul_lt_mul_of_pos_right (by omega) p
        rw [if_neg h3, if_neg (by omega)]
theorem fmul_0 : ∀ s, s < 601 → FP.fmul (FP.i2f (nI s)) (FP.i2f (nI 0)) = FP.i2f (nI 0) := by decide +kernel
theorem i2f_n {k : Nat} (h : k < 100000) : vf_n32 (FP.i2f (nI k)) := by
  by_cases h0 : k = 0
  · rw [h0]
    unfold vf_n32
    decide +kernel
  · rw [i2f_v (by omega) (by omega)]
    exact (dy_b (by omega) (by omega) (by omega) (by omega)).2
theorem i2f_mul {s r : Nat} (h1 : 1 ≤ s) (h2 : s ≤ 600) (h3 : r ≤ 64) : FP.fmul (FP.i2f (nI s)) (FP.i2f (nI r)) = FP.i2f (nI (s * r)) := by
  by_cases hr : r = 0
  · rw [hr, fmul_0 s (by omega)]
    rfl
  · have hsr : s * r ≤ 600 * 64 := Nat.mul_le_mul h2 h3
    have hsr1 : 1 ≤ s * r := Nat.mul_pos h1 (by omega)
    have e : FP.fmul (FP.i2f (nI s)) (FP.i2f (nI r)) = UInt32.ofNat (FP.Core.encode FP.Core.b32 (FP.Core.round FP.Core.b32 (FP.Core.exactProduct (fv (FP.i2f (nI s))) (fv (FP.i2f (nI r)))))) := rfl
    rw [e, i2f_v (k := s) h1 (by omega), i2f_v (k := r) (by omega) (by omega), i2f_v (k := s * r) hsr1 (by omega), (dy_b h1 (by omega) (by omega) (by omega)).1, (dy_b (n := r) (by omega) (by omega) (by omega) (by omega)).1]
    have c := dy_c (n := s) h1 (by omega)
    have d := dy_c (n := r) (by omega) (by omega)
    have r9 := dy_r (n := s * r) (j := (23 - s.log2) + (23 - r.log2)) (e := (s.log2 : Int) + 0 - 23 + ((r.log2 : Int) + 0 - 23)) (e0 := 0) hsr1 (by omega) (by omega) (by omega) (by omega)
    unfold dyB
    have hA : dy s 0 = .fin false (s * 2 ^ (23 - s.log2)) ((s.log2 : Int) + 0 - 23) := rfl
    have hB : dy r 0 = .fin false (r * 2 ^ (23 - r.log2)) ((r.log2 : Int) + 0 - 23) := rfl
    rw [← r9, hA, hB, prd_fin, rnd_fin, ff_f, Nat.pow_add, Nat.mul_assoc s, Nat.mul_assoc s, Nat.mul_left_comm (2 ^ (23 - s.log2)) r]
theorem gain_tk {n r : Nat} (h1 : 1 ≤ n) (h2 : n ≤ 600) (h3 : r ≤ 64) : gainV n r = tkV (n * r) := by
  unfold gainV tkV
  rw [i2f_mul h1 h2 h3]
theorem cls_tk {a b : Nat} (ha : a ≤ 256) (hb : b < 90000) : clsT (tkV a) (tkV b) = tkV (min 256 (a + b)) := by
  unfold clsT
  rw [tk_add (by omega) (by omega), tk_cmp (by omega)]
  by_cases h : a + b < 256
  · rw [if_pos h, if_pos (by decide +kernel), show min 256 (a + b) = a + b by omega]
  · rw [if_neg h, show min 256 (a + b) = 256 by omega, ← tk_256]
    by_cases h2 : a + b = 256
    · rw [if_pos h2, if_neg (by decide +kernel)]
    · rw [if_neg h2, if_neg (by decide +kernel)]
theorem tk_1 : ∀ k, k < 257 → ¬ Op.cmpValue (FP.fcmp (tkV k) FP.fconst1) .g < 0 → vf_n32 (FP.fsub (tkV k) FP.fconst1) ∧ FP.fsub (tkV k) FP.fconst1 = tkV (k - 64) := by
  unfold vf_n32
  decide +kernel
theorem tk_h : ∀ k, k < 257 → ¬ Op.cmpValue (FP.fcmp (tkV k) 1056964608) .g < 0 → vf_n32 (FP.fsub (tkV k) 1056964608) ∧ FP.fsub (tkV k) 1056964608 = tkV (k - 32) := by
  unfold vf_n32
  decide +kernel
theorem tk_d : ∀ k, k < 257 → vf_n64 (FP.f2d (tkV k)) ∧ Op.cmpValue (FP.dcmp (FP.f2d (tkV k)) (FP.f2d (tkV k))) .l = 0 ∧ FP.fcmp (tkV k) (tkV k) = some .eq := by
  unfold vf_n64
  decide +kernel
theorem tk_bits : ∀ k, k < 257 → (¬ 0 < Op.cmpValue (FP.fcmp (tkV k) FP.fconst0) .g → (tkV k).toInt32 = nI 0) ∧ (0 < Op.cmpValue (FP.fcmp (tkV k) FP.fconst0) .g → bofH 30 (tkV k) (nI 0) = some (tkV k).toInt32) := by decide +kernel
theorem shr_ok : ∀ a, a < 7 → ∀ b, b < 7 → 1 ≤ b → vf_n32 (FP.fdiv (FP.i2f (nI a)) (FP.i2f (nI b))) ∧ vf_n64 (FP.f2d (FP.fdiv (FP.i2f (nI a)) (FP.i2f (nI b)))) ∧ Op.cmpValue (FP.dcmp (FP.f2d (FP.fdiv (FP.i2f (nI a)) (FP.i2f (nI b)))) (FP.f2d (FP.fdiv (FP.i2f (nI a)) (FP.i2f (nI b))))) .l = 0 := by
  unfold vf_n32 vf_n64
  decide +kernel
