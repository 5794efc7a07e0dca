/-! activity: never NaN; its bits -/
theorem cv_lt {o : Option Ordering} (h : o = some .lt) (p : CmpOp) : Op.cmpValue o p = -1 := by rw [h]; rfl
theorem cv_ge {o : Option Ordering} (h : o = some .eq ∨ o = some .gt) (p : CmpOp) : Op.cmpValue o p = 0 ∨ Op.cmpValue o p = 1 := by
  rcases h with h | h
  · rw [h]; exact Or.inl rfl
  · rw [h]; exact Or.inr rfl
theorem mkD_n {E T : Nat} (h0 : 1 ≤ E) (h1 : E ≤ 2046) (h2 : T < 4503599627370496) : vf_n64 (mkD E T) := NB.n (lo := -1074) (hi := 971) ⟨E, T, rfl, h0, h1, h2, by omega, by omega⟩
theorem mkD_n2 {E T : Nat} (h0 : 1 ≤ E) (h1 : E ≤ 2046) (h2 : T < 4503599627370496) : mkD E T &&& 9223372036854775807 ≤ 9218868437227405312 := mkD_n h0 h1 h2
theorem sh52 : ∀ E, E < 2047 → ((nI E).toInt64 <<< ((nI 52).toInt64 &&& 63)) = Int64.ofNat (E * 4503599627370496) := by decide +kernel
theorem bodE_ok {T E0 : Nat} {e : Int32} (hT : T < 4503599627370496) (he : e + nI 1023 = nI E0) (hE : E0 < 2047) : bodE (mkD 1023 T) e = some (mkD E0 T).toInt64 := by
  unfold bodE
  rw [subD hT, k_52, mulD hT, d2lD hT, he, sh52 E0 hE, if_pos ⟨(frD_b hT (by omega) (by omega)).2, (frD_b hT (by omega) (by omega)).2⟩, ← Int64.ofNat_add]
  rfl
theorem eN_1 : ∀ i, i < 50 → nI 0 - nI i + nI 1023 = nI (1023 - i) := by decide +kernel
theorem eN_2 : ∀ i, i < 50 → ¬ (nI 0 - nI i ≤ -1022) := by decide +kernel
theorem eN_3 : ∀ i, i < 50 → nI 0 - nI i + (-1) = nI 0 - nI (i + 1) := by decide +kernel
theorem bodL_ok {T : Nat} (hT : T < 4503599627370496) : ∀ j i n, i + j ≤ 40 → j < n → bodL n (mkD (1023 - j) T) (nI 0 - nI i) = some (mkD (1023 - i - j) T).toInt64
  | _, _, 0, _, h => absurd h (Nat.not_lt_zero _)
  | 0, i, n + 1, h1, _ => by
    unfold bodL
    have c := (dcmpD (E := 1023) (T := T) (F := 1023) (by decide) (by decide) hT (by decide) (by decide)).2 (Nat.le_refl _)
    have v := cv_ge c .g
    rw [k_1] at *
    rw [if_pos (Or.inl (by rw [Nat.sub_zero]; rcases v with v | v <;> rw [v] <;> decide +kernel)), Nat.sub_zero, Nat.sub_zero]
    exact bodE_ok hT (eN_1 i (by omega)) (by omega)
  | j + 1, i, n + 1, h1, h2 => by
    unfold bodL
    have c := (dcmpD (E := 1023 - (j + 1)) (T := T) (F := 1023) (by omega) (by omega) hT (by decide) (by decide)).1 (by omega)
    have v := cv_lt c .g
    rw [← k_1] at v
    have ng : ¬ (0 ≤ Op.cmpValue (FP.dcmp (mkD (1023 - (j + 1)) T) FP.dconst1) .g ∨ nI 0 - nI i ≤ -1022) := by
      rintro (q | q)
      · rw [v] at q
        exact absurd q (by decide +kernel)
      · exact eN_2 i (by omega) q
    rw [if_neg ng, k_2, twiceD (by omega) (by omega) hT, show 1023 - (j + 1) + 1 = 1023 - j by omega, if_pos (mkD_n2 (by omega) (by omega) hT), eN_3 i (by omega), bodL_ok hT j (i + 1) n (by omega) (by omega)]
    rw [mkD_eq (show 1023 - (i + 1) - j = 1023 - i - (j + 1) by omega) rfl]
theorem bodH_ok {T : Nat} (hT : T < 4503599627370496) : ∀ j i n, i + j ≤ 300 → j < n → bodH n (mkD (1023 + j) T) (nI i) = some (mkD (1023 + i + j) T).toInt64
  | _, _, 0, _, h => absurd h (Nat.not_lt_zero _)
  | 0, i, n + 1, h1, _ => by
    unfold bodH
    have c := (dcmpD (E := 1023) (T := T) (F := 1024) (by decide) (by decide) hT (by decide) (by decide)).1 (by decide)
    have v := cv_lt c .l
    rw [if_pos (Or.inl (by rw [k_2, Nat.add_zero, v]; decide +kernel)), Nat.add_zero, Nat.add_zero]
    have d := (dcmpD (E := 1023) (T := T) (F := 1023) (by decide) (by decide) hT (by decide) (by decide)).2 (Nat.le_refl _)
    have w := cv_ge d .g
    rw [show (200 : Nat) = 199 + 1 from rfl]
    unfold bodL
    rw [k_1, if_pos (Or.inl (by rcases w with w | w <;> rw [w] <;> decide +kernel))]
    exact bodE_ok hT (by rw [nI_add, Nat.add_comm]) (by omega)
  | j + 1, i, n + 1, h1, h2 => by
    unfold bodH
    have c := (dcmpD (E := 1023 + (j + 1)) (T := T) (F := 1024) (by omega) (by omega) hT (by decide) (by decide)).2 (by omega)
    have v := cv_ge c .l
    have ng : ¬ (Op.cmpValue (FP.dcmp (mkD (1023 + (j + 1)) T) (mkD 1024 0)) .l < 0 ∨ nI 1023 ≤ nI i) := by
      rintro (q | q)
      · rcases v with v | v
        · rw [v] at q
          exact absurd q (by decide +kernel)
        · rw [v] at q
          exact absurd q (by decide +kernel)
      · rw [nle (by omega) (by omega)] at q
        omega
    rw [k_2, if_neg ng, halfD (by omega) (by omega) hT, show 1023 + (j + 1) - 1 = 1023 + j by omega, if_pos (mkD_n2 (by omega) (by omega) hT), nI_add, bodH_ok hT j (i + 1) n (by omega) (by omega)]
    rw [mkD_eq (show 1023 + (i + 1) + j = 1023 + i + (j + 1) by omega) rfl]
theorem bod_ok {E T : Nat} (h0 : 985 ≤ E) (h1 : E ≤ 1200) (hT : T < 4503599627370496) : bodH 400 (mkD E T) (nI 0) = some (mkD E T).toInt64 := by
  by_cases h : 1023 ≤ E
  · have z := bodH_ok hT (E - 1023) 0 400 (by omega) (by omega)
    rw [show 1023 + (E - 1023) = E by omega] at z
    exact z
  · have z := bodL_ok hT (1023 - E) 0 200 (by omega) (by omega)
    rw [show 1023 - (1023 - E) = E by omega, show nI 0 - nI 0 = nI 0 from by decide +kernel] at z
    have c := (dcmpD (E := E) (T := T) (F := 1024) (by omega) (by omega) hT (by decide) (by decide)).1 (by omega)
    have v := cv_lt c .l
    rw [show (400 : Nat) = 399 + 1 from rfl]
    unfold bodH
    rw [if_pos (Or.inl (by rw [k_2, v]; decide +kernel))]
    exact z
theorem pos_D {E T : Nat} (h0 : 1 ≤ E) (h1 : E ≤ 2046) (h2 : T < 4503599627370496) : FP.dcmp (mkD E T) FP.dconst0 = some .gt := by
  have e : FP.dcmp (mkD E T) FP.dconst0 = FP.Core.order (dv (mkD E T)) (dv FP.dconst0) := rfl
  rw [e, dvD h0 h1 h2, dv0]
  unfold FP.Core.order FP.Core.signed FP.Core.inUnits
  simp only [Bool.false_eq_true, if_false, Nat.zero_mul]
  rw [cmp_int]
  have p := Nat.two_pow_pos (((E : Int) - 1075) - min ((E : Int) - 1075) (-1074)).toNat
  have p2 : (4503599627370496 + T) * 1 ≤ (4503599627370496 + T) * 2 ^ (((E : Int) - 1075) - min ((E : Int) - 1075) (-1074)).toNat := Nat.mul_le_mul (Nat.le_refl _) p
  rw [if_neg (by omega), if_neg (by omega)]
theorem self_D {E T : Nat} (h0 : 1 ≤ E) (h1 : E ≤ 2046) (h2 : T < 4503599627370496) : FP.dcmp (mkD E T) (mkD E T) = some .eq := by
  have e : FP.dcmp (mkD E T) (mkD E T) = FP.Core.order (dv (mkD E T)) (dv (mkD E T)) := rfl
  rw [e, dvD h0 h1 h2]
  unfold FP.Core.order FP.Core.signed
  simp only [Bool.false_eq_true, if_false]
  rw [cmp_int, if_neg (Nat.lt_irrefl _), if_pos rfl]
/-- a user's activity: 0, or a double within bounds -/
theorem act_n {x : gS} (hi : iX x) (u : Nat) : ∀ j, j ≤ g_nm x → actF x u j = FP.dconst0 ∨ NB (-84) (-51 + 2 * j) (actF x u j)
  | 0, _ => Or.inl rfl
  | j + 1, h => by
    have hm := hi.1.2.2.1
    have hnow := hi.1.2.2.2.1
    have ih := act_n hi u j (by omega)
    unfold actF
    split
    · have q : NB (-84) (-51) (qA x j) := inv_n (by omega) (by omega)
      rcases ih with e | e
      · rw [e, dadd_0 q]
        exact Or.inr (q.w (by omega))
      · have z := dadd_n e (q.w (hi2 := -51 + 2 * (j : Int)) (by omega)) (by omega) (by omega)
        exact Or.inr (z.w (by omega))
    · exact ih.elim Or.inl (fun e => Or.inr (e.w (by omega)))
theorem okA_ok {x : gS} (hi : iX x) (u : Nat) : okA x u := fun m hm h1 h2 => by
  have hm60 := hi.1.2.2.1
  have hnow := hi.1.2.2.2.1
  have q : NB (-84) (-51) (qA x m) := inv_n (by omega) (by omega)
  refine ⟨q.n, ?_⟩
  rcases act_n hi u m (by omega) with e | e
  · rw [e, dadd_0 q]
    exact q.n
  · exact (dadd_n e (q.w (hi2 := -51 + 2 * (m : Int)) (by omega)) (by omega) (by omega)).n
theorem okB_ok {x : gS} (hi : iX x) (u : Nat) : okB x u := by
  have hm := hi.1.2.2.1
  refine ⟨400, ?_⟩
  rcases act_n hi u (g_nm x) (Nat.le_refl _) with e | ⟨E, T, e, e1, e2, e3, e4, e5⟩
  · rw [e]
    exact ⟨fun _ => by decide +kernel, fun h => absurd h (by decide +kernel)⟩
  · rw [e]
    have p := pos_D e1 e2 e3
    have c : Op.cmpValue (FP.dcmp (mkD E T) FP.dconst0) .g = 1 := by rw [p]; rfl
    rw [c]
    exact ⟨fun h => absurd (by decide +kernel) h, fun _ => bod_ok (by omega) (by omega) e3⟩
theorem act_s {x : gS} (hi : iX x) (u : Nat) : FP.dcmp (actF x u (g_nm x)) (actF x u (g_nm x)) = some .eq := by
  rcases act_n hi u (g_nm x) (Nat.le_refl _) with e | ⟨E, T, e, e1, e2, e3, e4, e5⟩
  · rw [e]
    decide +kernel
  · rw [e]
    exact self_D e1 e2 e3
