/-! doubles by their bits -/
def mkD (E T : Nat) : UInt64 := UInt64.ofNat (E * 4503599627370496 + T)
def dv (a : UInt64) : FP.Core.Datum := FP.Core.decode FP.Core.b64 a.toNat
theorem mkD_nat {E T : Nat} (h1 : E ≤ 2046) (h2 : T < 4503599627370496) : (mkD E T).toNat = E * 4503599627370496 + T := by
  unfold mkD
  exact UInt64.toNat_ofNat_of_lt' (by show E * 4503599627370496 + T < 18446744073709551616; omega)
theorem dvD {E T : Nat} (h0 : 1 ≤ E) (h1 : E ≤ 2046) (h2 : T < 4503599627370496) : dv (mkD E T) = .fin false (4503599627370496 + T) ((E : Int) - 1075) := by
  unfold dv
  rw [mkD_nat h1 h2]
  unfold FP.Core.decode FP.Core.fieldE FP.Core.fieldT FP.Core.fieldS
  rw [b64_tails, b64_exps, b64_qmin]
  have e1 : (E * 4503599627370496 + T) / 4503599627370496 = E := by omega
  have e2 : (E * 4503599627370496 + T) % 4503599627370496 = T := by omega
  rw [e1, e2, Nat.mod_eq_of_lt (show E < 2048 by omega), if_neg (by omega), if_neg (by omega), show E / 2048 = 0 by omega]
  congr 1
  omega
theorem enc_fin (f : FP.Core.Fmt) (s : Bool) (c : Nat) (q : Int) : FP.Core.encode f (.fin s c q) = if c < f.tails then FP.Core.assemble f s 0 c else FP.Core.assemble f s ((q - f.qmin).toNat + 1) (c - f.tails) := rfl
theorem rnd_fin (f : FP.Core.Fmt) (s : Bool) (c : Nat) (q : Int) : FP.Core.round f (.fin s c q) = FP.Core.roundRatio f s c 1 q := rfl
theorem quo_fin (f : FP.Core.Fmt) (s t : Bool) (c d : Nat) (q r : Int) : FP.Core.quotient f (.fin s c q) (.fin t d r) = if d = 0 then (if c = 0 then .nan else .inf (s != t)) else FP.Core.roundRatio f (s != t) c d (q - r) := rfl
theorem prd_fin (s t : Bool) (c d : Nat) (q r : Int) : FP.Core.exactProduct (.fin s c q) (.fin t d r) = .fin (s != t) (c * d) (q + r) := rfl
theorem fin_eq {c c1 : Nat} {q q1 : Int} (h1 : c = c1) (h2 : q = q1) : FP.Core.Datum.fin false c q = .fin false c1 q1 := by rw [h1, h2]
theorem mkD_eq {E E1 T T1 : Nat} (h1 : E = E1) (h2 : T = T1) : mkD E T = mkD E1 T1 := by rw [h1, h2]
theorem ff_f : (false != false) = false := rfl
theorem encD {c : Nat} {q : Int} (h1 : 2 ^ 52 ≤ c) (h2 : c < 2 ^ 53) (q1 : -1074 ≤ q) : UInt64.ofNat (FP.Core.encode FP.Core.b64 (.fin false c q)) = mkD (q + 1075).toNat (c - 4503599627370496) := by
  unfold mkD
  rw [enc_fin, b64_tails, b64_qmin, if_neg (by omega)]
  unfold FP.Core.assemble
  rw [b64_tails, b64_exps, show (q - (-1074)).toNat + 1 = (q + 1075).toNat by omega]
  simp
def NB (lo hi : Int) (a : UInt64) : Prop := ∃ E T : Nat, a = mkD E T ∧ 1 ≤ E ∧ E ≤ 2046 ∧ T < 4503599627370496 ∧ lo ≤ (E : Int) - 1075 ∧ (E : Int) - 1075 ≤ hi
theorem N64.b {lo hi : Int} {d : FP.Core.Datum} (h : N64 lo hi d) (h1 : -1074 ≤ lo) (h2 : hi ≤ 971) : NB lo hi (UInt64.ofNat (FP.Core.encode FP.Core.b64 d)) := by
  obtain ⟨c, q, rfl, c1, c2, q1, q2⟩ := h
  exact ⟨(q + 1075).toNat, c - 4503599627370496, encD c1 c2 (by omega), by omega, by omega, by omega, by omega, by omega⟩
theorem NB.v {lo hi : Int} {a : UInt64} (h : NB lo hi a) : ∃ (c : Nat) (q : Int), dv a = .fin false c q ∧ 2 ^ 52 ≤ c ∧ c < 2 ^ 53 ∧ lo ≤ q ∧ q ≤ hi ∧ -1074 ≤ q ∧ q ≤ 971 := by
  obtain ⟨E, T, rfl, e1, e2, e3, e4, e5⟩ := h
  exact ⟨_, _, dvD e1 e2 e3, by omega, by omega, e4, e5, by omega, by omega⟩
theorem NB.n {lo hi : Int} {a : UInt64} (h : NB lo hi a) : vf_n64 a := by
  obtain ⟨E, T, rfl, e1, e2, e3, -⟩ := h
  unfold vf_n64
  rw [UInt64.le_iff_toNat_le, UInt64.toNat_and, mkD_nat e2 e3]
  have z : (0x7fffffffffffffff : UInt64).toNat = 2 ^ 63 - 1 := by decide +kernel
  rw [z, Nat.and_two_pow_sub_one_eq_mod]
  have z2 : (0x7ff0000000000000 : UInt64).toNat = 9218868437227405312 := by decide +kernel
  rw [z2]
  omega
theorem dv0 : dv FP.dconst0 = .fin false 0 (-1074) := by decide +kernel
theorem dv1 : dv FP.dconst1 = .fin false 4503599627370496 (-52) := by decide +kernel
theorem dadd_e (a b : UInt64) : FP.dadd a b = UInt64.ofNat (FP.Core.encode FP.Core.b64 (FP.Core.round FP.Core.b64 (FP.Core.exactSum (dv a) (dv b)))) := rfl
theorem ddiv_e (a b : UInt64) : FP.ddiv a b = UInt64.ofNat (FP.Core.encode FP.Core.b64 (FP.Core.quotient FP.Core.b64 (dv a) (dv b))) := rfl
theorem dmul_e (a b : UInt64) : FP.dmul a b = UInt64.ofNat (FP.Core.encode FP.Core.b64 (FP.Core.round FP.Core.b64 (FP.Core.exactProduct (dv a) (dv b)))) := rfl
theorem dsub_e (a b : UInt64) : FP.dsub a b = UInt64.ofNat (FP.Core.encode FP.Core.b64 (FP.Core.round FP.Core.b64 (FP.Core.exactSum (dv a) (FP.Core.negate (dv b))))) := rfl
theorem sum_ff {c d : Nat} {q r : Int} : FP.Core.exactSum (.fin false c q) (.fin false d r) = .fin false (FP.Core.inUnits c q (min q r) + FP.Core.inUnits d r (min q r)) (min q r) := by
  unfold FP.Core.exactSum FP.Core.sumUnits FP.Core.signed FP.Core.sumSign
  simp only [Bool.false_eq_true, if_false]
  have z : ((FP.Core.inUnits c q (min q r) : Nat) : Int) + ((FP.Core.inUnits d r (min q r) : Nat) : Int) = ((FP.Core.inUnits c q (min q r) + FP.Core.inUnits d r (min q r) : Nat) : Int) := by omega
  rw [z]
  congr 1
  split
  · rfl
  · exact decide_eq_false (by omega)
/-- 0 before a sum -/
theorem dadd_0 {lo hi : Int} {b : UInt64} (h : NB lo hi b) : FP.dadd FP.dconst0 b = b := by
  obtain ⟨E, T, rfl, e1, e2, e3, -⟩ := h
  rw [dadd_e, dv0, dvD e1 e2 e3, sum_ff]
  unfold FP.Core.inUnits
  rw [rnd_fin, show min (-1074 : Int) ((E : Int) - 1075) = -1074 by omega, Nat.zero_mul, Nat.zero_add]
  rw [RRc FP.Core.b64 52 b64_p false (q := (E : Int) - 1075) (by omega) (by omega) (by omega) (by rw [b64_qmin]; omega) (by rw [b64_qmax]; omega), encD (by omega) (by omega) (by omega)]
  exact mkD_eq (by omega) (by omega)
theorem dadd_n {lo hi : Int} {a b : UInt64} (ha : NB lo hi a) (hb : NB lo hi b) (h1 : -1000 ≤ lo) (h2 : hi + 2 ≤ 971) : NB lo (hi + 2) (FP.dadd a b) := by
  obtain ⟨c, q, ea, c1, c2, q1, q2, -⟩ := ha.v
  obtain ⟨d, r, eb, d1, d2, r1, r2, -⟩ := hb.v
  rw [dadd_e, ea, eb, sum_ff]
  refine N64.b ?_ (by omega) h2
  show N64 lo (hi + 2) (FP.Core.roundRatio FP.Core.b64 false _ 1 _)
  have key : ∀ (c d : Nat) (q r : Int), 2 ^ 52 ≤ c → c < 2 ^ 53 → 2 ^ 52 ≤ d → d < 2 ^ 53 → lo ≤ q → q ≤ hi → lo ≤ r → r ≤ hi → q ≤ r → N64 lo (hi + 2) (FP.Core.roundRatio FP.Core.b64 false (c + d * 2 ^ (r - q).toNat) 1 q) := by
    intro c d q r c1 c2 d1 d2 q1 q2 r1 r2 hqr
    have hD : ((r - q).toNat : Int) = r - q := by omega
    generalize (r - q).toNat = D at hD
    have p := Nat.two_pow_pos D
    have b1 : 2 ^ 52 * 2 ^ D ≤ d * 2 ^ D := Nat.mul_le_mul_right _ d1
    have b2 : d * 2 ^ D + 2 ^ D ≤ 2 ^ 53 * 2 ^ D := by
      rw [← Nat.succ_mul]
      exact Nat.mul_le_mul_right _ d2
    have b3 : 2 ^ 53 * 1 ≤ 2 ^ 53 * 2 ^ D := Nat.mul_le_mul_left _ p
    have e52 : (2 : Nat) ^ (52 + D) = 2 ^ 52 * 2 ^ D := Nat.pow_add _ _ _
    have e53 : (2 : Nat) ^ (53 + D) = 2 ^ 53 * 2 ^ D := Nat.pow_add _ _ _
    have e54 : (2 : Nat) ^ (54 + D) = 2 ^ 54 * 2 ^ D := Nat.pow_add _ _ _
    by_cases hS : c + d * 2 ^ D < 2 ^ (53 + D)
    · exact RG1 (M := 52 + D) (by omega) (by rw [show 52 + D + 1 = 53 + D by omega]; exact hS) (by omega) (by omega) (by omega) (by omega) h2
    · exact RG1 (M := 53 + D) (by omega) (by rw [show 53 + D + 1 = 54 + D by omega]; omega) (by omega) (by omega) (by omega) (by omega) h2
  unfold FP.Core.inUnits
  by_cases hqr : q ≤ r
  · have k := key c d q r c1 c2 d1 d2 q1 q2 r1 r2 hqr
    rw [show min q r = q by omega, show (q - q).toNat = 0 by omega, Nat.pow_zero, Nat.mul_one]
    exact k
  · have k := key d c r q d1 d2 c1 c2 r1 r2 q1 q2 (by omega)
    rw [show min q r = r by omega, show (r - r).toNat = 0 by omega, Nat.pow_zero, Nat.mul_one, Nat.add_comm]
    exact k
theorem NB.w {lo hi hi2 : Int} {a : UInt64} (h : NB lo hi a) (h2 : hi ≤ hi2) : NB lo hi2 a := by
  obtain ⟨E, T, e, e1, e2, e3, e4, e5⟩ := h
  exact ⟨E, T, e, e1, e2, e3, e4, by omega⟩
theorem i2d_v {d : Nat} (h1 : 1 ≤ d) (h2 : d < 2147483648) : dv (FP.i2d (nI d)) = .fin false (d * 2 ^ (52 - d.log2)) ((d.log2 : Int) - 52) := by
  have l1 : 2 ^ d.log2 ≤ d := Nat.log2_self_le (by omega)
  have l2 : d < 2 ^ (d.log2 + 1) := Nat.lt_log2_self
  have l3 : d.log2 < 31 := (Nat.log2_lt (by omega)).mpr h2
  generalize d.log2 = L at l1 l2 l3
  have e : FP.i2d (nI d) = UInt64.ofNat (FP.Core.encode FP.Core.b64 (.fin false (d * 2 ^ (52 - L)) ((L : Int) - 52))) := by
    show UInt64.ofNat (FP.Core.encode FP.Core.b64 (FP.Core.roundRatio FP.Core.b64 (decide ((nI d).toInt < 0)) (nI d).toInt.natAbs 1 0)) = _
    rw [nI_toInt (by omega), decide_eq_false (by omega), Int.natAbs_natCast]
    have r := RRs FP.Core.b64 52 b64_p false (n := d) (j := 0) (L := L) (e := 0) l1 l2 (by omega) (by rw [b64_qmin]; omega) (by rw [b64_qmax]; omega)
    rw [Nat.pow_zero, Nat.mul_one] at r
    rw [r]
    rw [show (L : Int) + 0 + ((0 : Nat) : Int) - ((52 : Nat) : Int) = (L : Int) - 52 by omega]
  have c1 : 2 ^ 52 ≤ d * 2 ^ (52 - L) := by
    have z := Nat.mul_le_mul_right (2 ^ (52 - L)) l1
    rw [← Nat.pow_add, show L + (52 - L) = 52 by omega] at z
    exact z
  have c2 : d * 2 ^ (52 - L) < 2 ^ 53 := by
    have z := Nat.mul_lt_mul_of_pos_right l2 (Nat.two_pow_pos (52 - L))
    rw [← Nat.pow_add, show L + 1 + (52 - L) = 53 by omega] at z
    exact z
  rw [e, encD c1 c2 (by omega), dvD (by omega) (by omega) (by omega)]
  exact fin_eq (by omega) (by omega)
theorem inv_n {d : Nat} (h1 : 1 ≤ d) (h2 : d < 2147483648) : NB (-84) (-51) (FP.ddiv FP.dconst1 (FP.i2d (nI d))) := by
  rw [ddiv_e, dv1, i2d_v h1 h2]
  have l1 : 2 ^ d.log2 ≤ d := Nat.log2_self_le (by omega)
  have l2 : d < 2 ^ (d.log2 + 1) := Nat.lt_log2_self
  have l3 : d.log2 < 31 := (Nat.log2_lt (by omega)).mpr h2
  generalize d.log2 = L at l1 l2 l3
  have c1 : 2 ^ 52 ≤ d * 2 ^ (52 - L) := by
    have z := Nat.mul_le_mul_right (2 ^ (52 - L)) l1
    rw [← Nat.pow_add, show L + (52 - L) = 52 by omega] at z
    exact z
  have c2 : d * 2 ^ (52 - L) < 2 ^ 53 := by
    have z := Nat.mul_lt_mul_of_pos_right l2 (Nat.two_pow_pos (52 - L))
    rw [← Nat.pow_add, show L + 1 + (52 - L) = 53 by omega] at z
    exact z
  refine N64.b ?_ (by omega) (by omega)
  rw [quo_fin, if_neg (by omega), ff_f]
  exact RG2 c1 c2 (by omega) (by omega) (by omega) (by omega)
/-! what a double is, by comparison and by arithmetic -/
theorem cmp_int {a b : Nat} : compare (a : Int) (b : Int) = if a < b then .lt else if a = b then .eq else .gt := by
  show compareOfLessAndEq (a : Int) (b : Int) = _
  unfold compareOfLessAndEq
  by_cases h1 : a < b
  · rw [if_pos h1, if_pos (by omega)]
  · rw [if_neg h1, if_neg (by omega)]
    by_cases h2 : a = b
    · rw [if_pos h2, if_pos (by omega)]
    · rw [if_neg h2, if_neg (by omega)]
theorem dcmpD {E T F : Nat} (h0 : 1 ≤ E) (h1 : E ≤ 2046) (h2 : T < 4503599627370496) (f0 : 1 ≤ F) (f1 : F ≤ 2046) : (E < F → FP.dcmp (mkD E T) (mkD F 0) = some .lt) ∧ (F ≤ E → FP.dcmp (mkD E T) (mkD F 0) = some .eq ∨ FP.dcmp (mkD E T) (mkD F 0) = some .gt) := by
  have e : FP.dcmp (mkD E T) (mkD F 0) = FP.Core.order (dv (mkD E T)) (dv (mkD F 0)) := rfl
  rw [e, dvD h0 h1 h2, dvD f0 f1 (by decide)]
  unfold FP.Core.order FP.Core.signed FP.Core.inUnits
  simp only [Bool.false_eq_true, if_false]
  rw [cmp_int]
  constructor
  · intro h
    have p : 2 ^ 1 ≤ 2 ^ (((F : Int) - 1075) - ((E : Int) - 1075)).toNat := Nat.pow_le_pow_right (by decide) (by omega)
    rw [show min ((E : Int) - 1075) ((F : Int) - 1075) = (E : Int) - 1075 by omega, show (((E : Int) - 1075) - ((E : Int) - 1075)).toNat = 0 by omega, if_pos (by omega)]
  · intro h
    have p := Nat.two_pow_pos (((E : Int) - 1075) - ((F : Int) - 1075)).toNat
    rw [show min ((E : Int) - 1075) ((F : Int) - 1075) = (F : Int) - 1075 by omega, show (((F : Int) - 1075) - ((F : Int) - 1075)).toNat = 0 by omega]
    have p2 : (4503599627370496 + 0) * 1 ≤ (4503599627370496 + T) * 2 ^ (((E : Int) - 1075) - ((F : Int) - 1075)).toNat := Nat.mul_le_mul (by omega) p
    rw [if_neg (by omega)]
    split
    · exact Or.inl rfl
    · exact Or.inr rfl
theorem k_2 : (4611686018427387904 : UInt64) = mkD 1024 0 := by decide +kernel
theorem k_1 : FP.dconst1 = mkD 1023 0 := by decide +kernel
theorem k_52 : (4841369599423283200 : UInt64) = mkD 1075 0 := by decide +kernel
theorem halfD {E T : Nat} (h0 : 2 ≤ E) (h1 : E ≤ 2046) (h2 : T < 4503599627370496) : FP.ddiv (mkD E T) (mkD 1024 0) = mkD (E - 1) T := by
  rw [ddiv_e, dvD (by omega) h1 h2, dvD (by decide) (by decide) (by decide)]
  rw [quo_fin, if_neg (by decide), ff_f, show (4503599627370496 + 0 : Nat) = 2 ^ 52 from by decide, RRd FP.Core.b64 52 b64_p false (q := (E : Int) - 1076) (by omega) (by omega) (by omega) (by rw [b64_qmin]; omega) (by rw [b64_qmax]; omega), encD (by omega) (by omega) (by omega)]
  exact mkD_eq (by omega) (by omega)
theorem twiceD {E T : Nat} (h0 : 1 ≤ E) (h1 : E ≤ 2045) (h2 : T < 4503599627370496) : FP.dmul (mkD E T) (mkD 1024 0) = mkD (E + 1) T := by
  rw [dmul_e, dvD h0 (by omega) h2, dvD (by decide) (by decide) (by decide)]
  rw [prd_fin, rnd_fin, ff_f, show (4503599627370496 + 0 : Nat) = 2 ^ 52 from by decide, RRc FP.Core.b64 52 b64_p false (q := (E : Int) - 1074) (by omega) (by omega) (by omega) (by rw [b64_qmin]; omega) (by rw [b64_qmax]; omega), encD (by omega) (by omega) (by omega)]
  exact mkD_eq (by omega) (by omega)
/-- a fraction's datum -/
def frD (T : Nat) (e : Int) : FP.Core.Datum := if T = 0 then .fin false 0 (-1074) else .fin false (T * 2 ^ (52 - T.log2)) ((T.log2 : Int) + e - 52)
theorem frD_r {T j : Nat} {e e0 : Int} (h : T < 4503599627370496) (he : e0 = e + j) (e1 : -1000 ≤ e0) (e2 : e0 ≤ 900) : FP.Core.roundRatio FP.Core.b64 false (T * 2 ^ j) 1 e = frD T e0 := by
  unfold frD
  by_cases h0 : T = 0
  · rw [if_pos h0, h0, Nat.zero_mul]
    unfold FP.Core.roundRatio
    rw [if_pos rfl, b64_qmin]
  · rw [if_neg h0]
    have l1 : 2 ^ T.log2 ≤ T := Nat.log2_self_le h0
    have l2 : T < 2 ^ (T.log2 + 1) := Nat.lt_log2_self
    have l3 : T.log2 < 52 := (Nat.log2_lt h0).mpr h
    generalize T.log2 = L at l1 l2 l3
    rw [RRs FP.Core.b64 52 b64_p false l1 l2 (by omega) (by rw [b64_qmin]; omega) (by rw [b64_qmax]; omega)]
    exact fin_eq rfl (by omega)
theorem frD_b {T : Nat} {e : Int} (h : T < 4503599627370496) (e1 : -1000 ≤ e) (e2 : e ≤ 900) : dv (UInt64.ofNat (FP.Core.encode FP.Core.b64 (frD T e))) = frD T e ∧ vf_n64 (UInt64.ofNat (FP.Core.encode FP.Core.b64 (frD T e))) := by
  unfold frD
  by_cases h0 : T = 0
  · rw [if_pos h0]
    exact ⟨by decide +kernel, by unfold vf_n64; decide +kernel⟩
  · rw [if_neg h0]
    have l1 : 2 ^ T.log2 ≤ T := Nat.log2_self_le h0
    have l2 : T < 2 ^ (T.log2 + 1) := Nat.lt_log2_self
    have l3 : T.log2 < 52 := (Nat.log2_lt h0).mpr h
    generalize T.log2 = L at l1 l2 l3
    have c1 : 2 ^ 52 ≤ T * 2 ^ (52 - L) := by
      have z := Nat.mul_le_mul_right (2 ^ (52 - L)) l1
      rw [← Nat.pow_add, show L + (52 - L) = 52 by omega] at z
      exact z
    have c2 : T * 2 ^ (52 - L) < 2 ^ 53 := by
      have z := Nat.mul_lt_mul_of_pos_right l2 (Nat.two_pow_pos (52 - L))
      rw [← Nat.pow_add, show L + 1 + (52 - L) = 53 by omega] at z
      exact z
    have n : N64 (-1074) 971 (.fin false (T * 2 ^ (52 - L)) ((L : Int) + e - 52)) := ⟨_, _, rfl, c1, c2, by omega, by omega⟩
    refine ⟨?_, (n.b (by omega) (by omega)).n⟩
    rw [encD c1 c2 (by omega), dvD (by omega) (by omega) (by omega)]
    exact fin_eq (by omega) (by omega)
theorem sum_ft (c d : Nat) (q : Int) (h : d ≤ c) : FP.Core.exactSum (.fin false c q) (.fin true d q) = .fin false (c - d) q := by
  have e : FP.Core.sumUnits false c q true d q (min q q) = ((c - d : Nat) : Int) := by
    unfold FP.Core.sumUnits FP.Core.signed FP.Core.inUnits
    rw [show min q q = q by omega, show (q - q).toNat = 0 by omega, Nat.pow_zero, Nat.mul_one, Nat.mul_one, if_neg (by decide), if_pos rfl]
    omega
  have g : FP.Core.exactSum (.fin false c q) (.fin true d q) = .fin (FP.Core.sumSign false true (FP.Core.sumUnits false c q true d q (min q q))) (FP.Core.sumUnits false c q true d q (min q q)).natAbs (min q q) := rfl
  rw [g, e, show min q q = q by omega, Int.natAbs_natCast]
  have k : FP.Core.sumSign false true ((c - d : Nat) : Int) = false := by
    unfold FP.Core.sumSign
    split
    · rfl
    · exact decide_eq_false (by omega)
  rw [k]
theorem subD {T : Nat} (h : T < 4503599627370496) : FP.dsub (mkD 1023 T) FP.dconst1 = UInt64.ofNat (FP.Core.encode FP.Core.b64 (frD T (-52))) := by
  rw [dsub_e, dv1, dvD (by decide) (by decide) h]
  have e : FP.Core.exactSum (.fin false (4503599627370496 + T) (((1023 : Nat) : Int) - 1075)) (FP.Core.negate (.fin false 4503599627370496 (-52))) = .fin false T (-52) := by
    have z := sum_ft (4503599627370496 + T) 4503599627370496 (-52) (by omega)
    rw [show 4503599627370496 + T - 4503599627370496 = T by omega] at z
    exact z
  rw [e, rnd_fin]
  have r := frD_r (j := 0) (e := -52) (e0 := -52) h (by omega) (by omega) (by omega)
  rw [Nat.pow_zero, Nat.mul_one] at r
  rw [r]
theorem mulD {T : Nat} (h : T < 4503599627370496) : FP.dmul (UInt64.ofNat (FP.Core.encode FP.Core.b64 (frD T (-52)))) (mkD 1075 0) = UInt64.ofNat (FP.Core.encode FP.Core.b64 (frD T 0)) := by
  rw [dmul_e, (frD_b h (by omega) (by omega)).1, dvD (by decide) (by decide) (by decide)]
  unfold frD
  by_cases h0 : T = 0
  · rw [if_pos h0, if_pos h0]
    decide +kernel
  · rw [if_neg h0, if_neg h0]
    have l1 : 2 ^ T.log2 ≤ T := Nat.log2_self_le h0
    have l2 : T < 2 ^ (T.log2 + 1) := Nat.lt_log2_self
    have l3 : T.log2 < 52 := (Nat.log2_lt h0).mpr h
    have r := frD_r (j := 104 - T.log2) (e := (T.log2 : Int) - 104) (e0 := 0) h (by omega) (by omega) (by omega)
    unfold frD at r
    rw [if_neg h0] at r
    generalize T.log2 = L at l1 l2 l3 r
    rw [prd_fin, rnd_fin, ff_f, show T * 2 ^ (52 - L) * (4503599627370496 + 0) = T * 2 ^ (104 - L) from by rw [show (4503599627370496 + 0 : Nat) = 2 ^ 52 from by decide, Nat.mul_assoc, ← Nat.pow_add, show 52 - L + 52 = 104 - L by omega], show (L : Int) + -52 - 52 + (((1075 : Nat) : Int) - 1075) = (L : Int) - 104 by omega, r]
theorem d2lD {T : Nat} (h : T < 4503599627370496) : FP.d2l (UInt64.ofNat (FP.Core.encode FP.Core.b64 (frD T 0))) = Int64.ofNat T := by
  have e : FP.d2l (UInt64.ofNat (FP.Core.encode FP.Core.b64 (frD T 0))) = FP.Core.toL (dv (UInt64.ofNat (FP.Core.encode FP.Core.b64 (frD T 0)))) := rfl
  rw [e, (frD_b h (by omega) (by omega)).1]
  have e2 : FP.Core.toInt (-2 ^ 63) (2 ^ 63 - 1) (frD T 0) = (T : Int) := by
    unfold frD
    by_cases h0 : T = 0
    · rw [if_pos h0, h0]
      decide +kernel
    · rw [if_neg h0]
      have l1 : 2 ^ T.log2 ≤ T := Nat.log2_self_le h0
      have l3 : T.log2 < 52 := (Nat.log2_lt h0).mpr h
      generalize T.log2 = L at l1 l3
      unfold FP.Core.toInt FP.Core.truncate FP.Core.signed
      simp only [Bool.false_eq_true, if_false]
      rw [show ((L : Int) + 0 - 52).toNat = 0 by omega, show (-((L : Int) + 0 - 52)).toNat = 52 - L by omega, Nat.pow_zero, Nat.mul_one, Nat.mul_div_cancel _ (Nat.two_pow_pos _)]
      omega
  unfold FP.Core.toL
  rw [e2]
  rfl
