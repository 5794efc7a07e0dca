/-! the reference's cells: its object, its rows -/
def yTy (k : Nat) : FieldType := if k = 16 then .boolean else .int
def yN (k : Nat) : Nat := [0, 6, 6, 120, 6, 4, 24, 24, 60, 60, 60, 60, 1200, 60, 60, 60, 60, 9, 60].getD k 0
abbrev oM (am : Nat → Nat) (th : Int32) (nu nr nm now rf wk : Nat) : gE := (true, 2, .inr (.inl (10, [.int th, .int (nI nu), .int (nI nr), .int (nI nm), .int (nI now), .int (nI rf), .ref (am 1), .ref (am 2), .ref (am 3), .ref (am 4), .ref (am 5), .ref (am 6), .ref (am 7), .ref (am 8), .ref (am 9), .ref (am 10), .ref (am 11), .ref (am 12), .ref (am 13), .ref (am 14), .ref (am 15), .ref (am 16), .ref (am 17), .ref (am 18), .int (nI wk)])))
abbrev aM (k : Nat) (f : Nat → Int32) : gE := (true, 2, .inl (yTy k, yN k, .inl f))
def hR (h : gH) (am : Nat → Nat) (th : Int32) (nu nr nm now rf wk : Nat) (y : Nat → Nat → Int32) (tk : Nat → UInt32) : Prop := h (am 0) = some (oM am th nu nr nm now rf wk) ∧ (∀ k, 1 ≤ k → k ≤ 18 → k ≠ 4 → h (am k) = some (aM k (y k))) ∧ h (am 4) = some (true, 2, .inl (.float, 6, .inr (.inr (.inl tk)))) ∧ ∀ i j, i ≤ 18 → j ≤ 18 → am i = am j → i = j
/-- what isn't the reference's stays -/
def gfm (h h1 : gH) : Prop := ∀ b e, h b = some e → e.2.1 ≠ 2 → h1 b = some e
theorem gfm.rf {h : gH} : gfm h h := fun _ _ q _ => q
theorem gfm.trans {h h1 h2 : gH} (a : gfm h h1) (b : gfm h1 h2) : gfm h h2 := fun c e q n => b c e (a c e q n) n
theorem gfm.set {h : gH} {a : Nat} {e0 : gA ⊕ ((Nat × List Value) ⊕ List Nat)} {e : gE} (hq : h a = some (true, 2, e0)) : gfm h (gset h a e) := fun b e9 q n => by
  by_cases hb : b = a
  · rw [hb, hq] at q
    cases q
    exact absurd rfl n
  · rw [gset_ne hb]
    exact q
section HRM
variable {h : gH} {am : Nat → Nat} {th : Int32} {nu nr nm now rf wk : Nat} {y : Nat → Nat → Int32} {tk : Nat → UInt32}
theorem hR.ne (hh : hR h am th nu nr nm now rf wk y tk) {i j : Nat} (hi : i ≤ 18) (hj : j ≤ 18) (n : i ≠ j) : am i ≠ am j := fun z => n (hh.2.2.2 i j hi hj z)
theorem hR.wr (hh : hR h am th nu nr nm now rf wk y tk) (k : Nat) (h1 : 1 ≤ k) (h2 : k ≤ 18) (h4 : k ≠ 4) (g : Nat → Int32) : hR (gset h (am k) (aM k g)) am th nu nr nm now rf wk (gup y k g) tk ∧ gfm h (gset h (am k) (aM k g)) := by
  refine ⟨⟨?_, fun i i1 i2 i4 => ?_, ?_, hh.2.2.2⟩, gfm.set (hh.2.1 k h1 h2 h4)⟩
  · rw [gset_ne (hh.ne (by omega) h2 (by omega))]
    exact hh.1
  · by_cases hik : i = k
    · rw [hik, gset_self, gup_at]
    · rw [gset_ne (hh.ne i2 h2 hik), gup_of hik]
      exact hh.2.1 i i1 i2 i4
  · rw [gset_ne (hh.ne (by omega) h2 (Ne.symm h4))]
    exact hh.2.2.1
theorem hR.wtk (hh : hR h am th nu nr nm now rf wk y tk) (g : Nat → UInt32) : hR (gset h (am 4) (true, 2, .inl (.float, 6, .inr (.inr (.inl g))))) am th nu nr nm now rf wk y g ∧ gfm h (gset h (am 4) (true, 2, .inl (.float, 6, .inr (.inr (.inl g))))) := by
  refine ⟨⟨?_, fun i i1 i2 i4 => ?_, gset_self _ _ _, hh.2.2.2⟩, gfm.set hh.2.2.1⟩
  · rw [gset_ne (hh.ne (by omega) (by omega) (by omega))]
    exact hh.1
  · rw [gset_ne (hh.ne i2 (by omega) i4)]
    exact hh.2.1 i i1 i2 i4
theorem hR.ob (hh : hR h am th nu nr nm now rf wk y tk) (th1 : Int32) (nu1 nr1 nm1 now1 rf1 wk1 : Nat) : hR (gset h (am 0) (oM am th1 nu1 nr1 nm1 now1 rf1 wk1)) am th1 nu1 nr1 nm1 now1 rf1 wk1 y tk ∧ gfm h (gset h (am 0) (oM am th1 nu1 nr1 nm1 now1 rf1 wk1)) := by
  refine ⟨⟨gset_self _ _ _, fun i i1 i2 i4 => ?_, ?_, hh.2.2.2⟩, gfm.set hh.1⟩
  · rw [gset_ne (hh.ne i2 (by omega) (by omega))]
    exact hh.2.1 i i1 i2 i4
  · rw [gset_ne (hh.ne (by omega) (by omega) (by omega))]
    exact hh.2.2.1
end HRM
