/-! the class's cells, as the mathematical state has them -/
def gix (n : Nat) (u : Int32) : Option Nat := if u < 0 ∨ nI n ≤ u then none else some u.toNatClampNeg
theorem gix_none {n : Nat} {u : Int32} (h : gix n u = none) : u < 0 ∨ nI n ≤ u := by
  unfold gix at h
  split at h
  · assumption
  · cases h
theorem gix_some {n i : Nat} {u : Int32} (hn : n < 2147483648) (h : gix n u = some i) : i < n ∧ u = nI i := by
  unfold gix at h
  split at h
  · cases h
  · rename_i hu
    cases h
    rcases pk_ix u (n := n) (by omega) with q | q | ⟨j, h1, h2⟩
    · exact absurd (Or.inl q) hu
    · exact absurd (Or.inr q) hu
    · subst h2
      rw [nI_clamp (by omega)]
      exact ⟨h1, rfl⟩
theorem gix_nI {n i : Nat} (hn : n < 2147483648) (h : i < n) : gix n (nI i) = some i := by
  unfold gix
  rw [if_neg, nI_clamp (by omega)]
  rintro (q | q)
  · exact nI_pos (by omega) q
  · exact nI_ge h (by omega) q
def liveX (x : gS) (k i : Nat) : Prop := match k with
  | 0 => i = 0
  | 1 => i = 0
  | 2 => i = 0
  | 3 => i = 0
  | 4 => i = 0
  | 5 => i = 0
  | 6 => i = 0
  | 7 => i = 0
  | 8 => i = 0
  | 9 => i < g_nu x
  | 10 => i < g_nu x
  | 11 => i < g_nu x
  | 12 => i < g_nr x
  | 13 => i < g_nr x
  | 14 => i < g_nr x
  | 15 => i / 6 < g_nr x ∧ i % 6 ∈ g_mem x (i / 6)
  | 16 => i < g_nm x
  | 17 => i < g_nm x
  | 18 => i < g_nm x
  | 19 => i < (g_log x).length
  | _ => False
/-- a text in a row of chars: the first of them -/
def txA (l : List Nat) (f : Nat → Int32) : Prop := ∀ j, j < l.length → f j = nI (l.getD j 0) ∧ l.getD j 0 < 128
def b2i (b : Bool) : Int32 := if b = true then nI 1 else nI 0
abbrev oX (c : Nat) (fs : List Value) : gE := (true, 1, .inr (.inl (c, fs)))
abbrev lX (us : List Nat) : gE := (true, 1, .inr (.inr us))
abbrev aX (ty : FieldType) (n : Nat) (f : Nat → Int32) : gE := (true, 1, .inl (ty, n, .inl f))
def prV (ad : Nat → Nat → Nat) (p : Option Nat) : Value := match p with
  | none => .null
  | some m => .ref (ad 16 m)
/-- where the stay of user u in room r stands: cell 15 of index 6 r + u -/
def adM (ad : Nat → Nat → Nat) (r u : Nat) : Nat := ad 15 (6 * r + u)
def cellX (x : gS) (ad : Nat → Nat → Nat) (k i : Nat) (e : gE) : Prop := match k with
  | 0 => e = oX 9 [.ref (ad 1 0), .ref (ad 2 0), .ref (ad 3 0), .ref (ad 4 0), .ref (ad 5 0), .int (nI (g_now x)), .int (nI (g_rf x))]
  | 1 => e = lX ((List.range (g_nu x)).map (ad 9))
  | 2 => e = lX ((List.range (g_nr x)).map (ad 12))
  | 3 => e = lX ((List.range (g_nm x)).map (ad 16))
  | 4 => e = lX ((List.range (g_log x).length).map (ad 19))
  | 5 => ∃ r c m k : Int32, e = oX 5 [.ref (ad 6 0), .ref (ad 7 0), .ref (ad 8 0), .int r, .int c, .int m, .int k]
  | 6 => ∃ f, e = aX .int 60 f
  | 7 => ∃ f, e = aX .int 60 f
  | 8 => ∃ f, e = aX .boolean 60 f
  | 9 => e = oX 8 [.int (nI i), .ref (ad 10 i), .float (g_tok x i), .int (nI (g_seen x i))]
  | 10 => e = oX 7 [.ref (ad 11 i), .int (nI (g_dr x i).length)]
  | 11 => ∃ f, e = aX .char 20 f ∧ txA (g_dr x i) f
  | 12 => e = oX 6 [.int (nI i), .ref (ad 13 i), .ref (ad 14 i)]
  | 13 => e = lX ((g_mem x i).map (adM ad i))
  | 14 => e = lX ((g_rms x i).map (ad 16))
  | 15 => e = oX 11 [.ref (ad 9 (i % 6)), .int (nI (g_mk x (i / 6) (i % 6)))]
  | 16 => e = oX 4 [.int (nI i), .ref (ad 9 (g_au x i)), .ref (ad 12 (g_rm x i)), .int (nI (g_rk x i)), prV ad (g_pa x i), .int (nI (g_tm x i)), .int (nI (g_dp x i)), .ref (ad 17 i), .int (nI (g_ts x i)), .int (nI (g_mm x i)), .int (nI (g_ed x i)), .int (b2i (g_gone x i))]
  | 17 => e = oX 7 [.ref (ad 18 i), .int (nI (g_tx x i).length)]
  | 18 => ∃ f, e = aX .char 20 f ∧ txA (g_tx x i) f
  | 19 => ∃ v : gEv, (g_log x)[i]? = some v ∧ e = oX 3 [.int (nI v.1), .int v.2.1, .int v.2.2.1, .int v.2.2.2.1, .int (nI v.2.2.2.2)]
  | _ => False
/-- the text of the kinds, as it stands before the run -/
def kcode (j : Nat) : Nat := [114, 111, 106, 108, 115, 101, 120, 109, 112].getD j 0
def gHasK (h : gH) : Prop := ∃ (e0 b0 t0 : Nat) (f : Nat → Int32), h e0 = some (false, 78, .inr (.inl (0, [.ref b0, .int (nI 0)]))) ∧ h b0 = some (false, t0, .inl (.byte, 9, .inl f)) ∧ t0 ≠ 1 ∧ ∀ j, j < 9 → f j = nI (kcode j)
/-- what isn't the class's stays -/
def gfr (h h1 : gH) : Prop := ∀ b e, h b = some e → e.2.1 ≠ 1 → h1 b = some e
theorem gfr.rf {h : gH} : gfr h h := fun _ _ q _ => q
theorem gfr.trans {h h1 h2 : gH} (a : gfr h h1) (b : gfr h1 h2) : gfr h h2 := fun c e q n => b c e (a c e q n) n
theorem gfr.set {h : gH} {a : Nat} {e0 : gA ⊕ ((Nat × List Value) ⊕ List Nat)} {e : gE} (hq : h a = some (true, 1, e0)) : gfr h (gset h a e) := fun b e9 q n => by
  by_cases hb : b = a
  · rw [hb, hq] at q
    cases q
    exact absurd rfl n
  · rw [gset_ne hb]
    exact q
theorem gfr.new {h : gH} {a : Nat} {e : gE} (hq : h a = none) : gfr h (gset h a e) := fun b e9 q n => by
  by_cases hb : b = a
  · rw [hb, hq] at q
    cases q
  · rw [gset_ne hb]
    exact q
theorem gfr.ed {h h1 : gH} (a : gfr h h1) (b : gHasEd h) : gHasEd h1 := by
  obtain ⟨e0, x, q⟩ := b
  exact ⟨e0, x, a _ _ q (fun z => absurd z (show ¬ (77 : Nat) = 1 by decide))⟩
theorem gfr.k {h h1 : gH} (a : gfr h h1) (b : gHasK h) : gHasK h1 := by
  obtain ⟨e0, b0, t0, f, q1, q2, q3, q4⟩ := b
  exact ⟨e0, b0, t0, f, a _ _ q1 (fun z => absurd z (show ¬ (78 : Nat) = 1 by decide)), a _ _ q2 q3, q3, q4⟩
def holdsX (h : gH) (x : gS) (ad : Nat → Nat → Nat) : Prop := (∀ k i, liveX x k i → ∃ e, h (ad k i) = some e ∧ cellX x ad k i e) ∧ (∀ k i k1 i1, liveX x k i → liveX x k1 i1 → ad k i = ad k1 i1 → k = k1 ∧ i = i1) ∧ gHasEd h ∧ gHasK h
theorem cellX_tag {x : gS} {ad : Nat → Nat → Nat} {k i : Nat} {e : gE} (h : cellX x ad k i e) : ∃ e0, e = (true, 1, e0) := by
  unfold cellX at h
  split at h
  case h_6 => obtain ⟨r, c, m, k, rfl⟩ := h; exact ⟨_, rfl⟩
  case h_7 => obtain ⟨f, rfl⟩ := h; exact ⟨_, rfl⟩
  case h_8 => obtain ⟨f, rfl⟩ := h; exact ⟨_, rfl⟩
  case h_9 => obtain ⟨f, rfl⟩ := h; exact ⟨_, rfl⟩
  case h_12 => obtain ⟨f, rfl, -⟩ := h; exact ⟨_, rfl⟩
  case h_19 => obtain ⟨f, rfl, -⟩ := h; exact ⟨_, rfl⟩
  case h_20 => obtain ⟨v, -, rfl⟩ := h; exact ⟨_, rfl⟩
  case h_21 => exact h.elim
  all_goals exact ⟨_, h⟩
theorem holdsX.ne {h : gH} {x : gS} {ad : Nat → Nat → Nat} (hh : holdsX h x ad) {k i k1 i1 : Nat} (h1 : liveX x k i) (h2 : liveX x k1 i1) (hn : k ≠ k1 ∨ i ≠ i1) : ad k i ≠ ad k1 i1 := fun z => by
  obtain ⟨a, b⟩ := hh.2.1 k i k1 i1 h1 h2 z
  rcases hn with hn | hn
  · exact hn a
  · exact hn b
/-- one cell is written -/
theorem holdsX.setS {h : gH} {x x1 : gS} {ad : Nat → Nat → Nat} (hh : holdsX h x ad) (k i : Nat) (hl : liveX x k i) {e : gE} (hlive : ∀ k1 i1, liveX x1 k1 i1 → liveX x k1 i1) (he : cellX x1 ad k i e) (hc : ∀ k1 i1 e1, (k1 ≠ k ∨ i1 ≠ i) → liveX x k1 i1 → cellX x ad k1 i1 e1 → cellX x1 ad k1 i1 e1) : holdsX (gset h (ad k i) e) x1 ad ∧ gfr h (gset h (ad k i) e) := by
  obtain ⟨e0, hq, hc0⟩ := hh.1 k i hl
  obtain ⟨e9, rfl⟩ := cellX_tag hc0
  have hf : gfr h (gset h (ad k i) e) := gfr.set hq
  refine ⟨⟨fun k1 i1 h1 => ?_, fun k1 i1 k2 i2 h1 h2 z => hh.2.1 k1 i1 k2 i2 (hlive _ _ h1) (hlive _ _ h2) z, hf.ed hh.2.2.1, hf.k hh.2.2.2⟩, hf⟩
  have h1 := hlive _ _ h1
  by_cases hk : k1 = k ∧ i1 = i
  · obtain ⟨rfl, rfl⟩ := hk
    exact ⟨e, gset_self _ _ _, he⟩
  · have hn : k1 ≠ k ∨ i1 ≠ i := by
      by_cases a : k1 = k
      · exact Or.inr (fun b => hk ⟨a, b⟩)
      · exact Or.inl a
    obtain ⟨e1, hq1, hc1⟩ := hh.1 k1 i1 h1
    exact ⟨e1, by rw [gset_ne (hh.ne h1 hl hn)]; exact hq1, hc k1 i1 e1 hn h1 hc1⟩
theorem holdsX.set {h : gH} {x x1 : gS} {ad : Nat → Nat → Nat} (hh : holdsX h x ad) (k i : Nat) (hl : liveX x k i) {e : gE} (hlive : ∀ k1 i1, liveX x1 k1 i1 ↔ liveX x k1 i1) (he : cellX x1 ad k i e) (hc : ∀ k1 i1 e1, (k1 ≠ k ∨ i1 ≠ i) → liveX x k1 i1 → cellX x ad k1 i1 e1 → cellX x1 ad k1 i1 e1) : holdsX (gset h (ad k i) e) x1 ad ∧ gfr h (gset h (ad k i) e) :=
  hh.setS k i hl (fun a b => (hlive a b).mp) he hc
theorem dv6 {r u : Nat} (h : u < 6) : (6 * r + u) / 6 = r ∧ (6 * r + u) % 6 = u := ⟨by omega, by omega⟩
theorem lvM {x : gS} {r u : Nat} (hr : r < g_nr x) (hm : u ∈ g_mem x r) (h6 : u < 6) : liveX x 15 (6 * r + u) := by
  show (6 * r + u) / 6 < g_nr x ∧ (6 * r + u) % 6 ∈ g_mem x ((6 * r + u) / 6)
  rw [(dv6 h6).1, (dv6 h6).2]
  exact ⟨hr, hm⟩
section HX
variable {h : gH} {x : gS} {ad : Nat → Nat → Nat}
theorem hX0 (hh : holdsX h x ad) : h (ad 0 0) = some (oX 9 [.ref (ad 1 0), .ref (ad 2 0), .ref (ad 3 0), .ref (ad 4 0), .ref (ad 5 0), .int (nI (g_now x)), .int (nI (g_rf x))]) := by
  obtain ⟨e, h1, h2⟩ := hh.1 0 0 rfl
  rw [h1, show e = _ from h2]
theorem hX1 (hh : holdsX h x ad) : h (ad 1 0) = some (lX ((List.range (g_nu x)).map (ad 9))) := by
  obtain ⟨e, h1, h2⟩ := hh.1 1 0 rfl
  rw [h1, show e = _ from h2]
theorem hX2 (hh : holdsX h x ad) : h (ad 2 0) = some (lX ((List.range (g_nr x)).map (ad 12))) := by
  obtain ⟨e, h1, h2⟩ := hh.1 2 0 rfl
  rw [h1, show e = _ from h2]
theorem hX3 (hh : holdsX h x ad) : h (ad 3 0) = some (lX ((List.range (g_nm x)).map (ad 16))) := by
  obtain ⟨e, h1, h2⟩ := hh.1 3 0 rfl
  rw [h1, show e = _ from h2]
theorem hX4 (hh : holdsX h x ad) : h (ad 4 0) = some (lX ((List.range (g_log x).length).map (ad 19))) := by
  obtain ⟨e, h1, h2⟩ := hh.1 4 0 rfl
  rw [h1, show e = _ from h2]
theorem hX9 (hh : holdsX h x ad) {i : Nat} (hi : i < g_nu x) : h (ad 9 i) = some (oX 8 [.int (nI i), .ref (ad 10 i), .float (g_tok x i), .int (nI (g_seen x i))]) := by
  obtain ⟨e, h1, h2⟩ := hh.1 9 i hi
  rw [h1, show e = _ from h2]
theorem hX10 (hh : holdsX h x ad) {i : Nat} (hi : i < g_nu x) : h (ad 10 i) = some (oX 7 [.ref (ad 11 i), .int (nI (g_dr x i).length)]) := by
  obtain ⟨e, h1, h2⟩ := hh.1 10 i hi
  rw [h1, show e = _ from h2]
theorem hX11 (hh : holdsX h x ad) {i : Nat} (hi : i < g_nu x) : ∃ f, h (ad 11 i) = some (aX .char 20 f) ∧ txA (g_dr x i) f := by
  obtain ⟨e, h1, f, rfl, h2⟩ := hh.1 11 i hi
  exact ⟨f, h1, h2⟩
theorem hX12 (hh : holdsX h x ad) {i : Nat} (hi : i < g_nr x) : h (ad 12 i) = some (oX 6 [.int (nI i), .ref (ad 13 i), .ref (ad 14 i)]) := by
  obtain ⟨e, h1, h2⟩ := hh.1 12 i hi
  rw [h1, show e = _ from h2]
theorem hX13 (hh : holdsX h x ad) {i : Nat} (hi : i < g_nr x) : h (ad 13 i) = some (lX ((g_mem x i).map (adM ad i))) := by
  obtain ⟨e, h1, h2⟩ := hh.1 13 i hi
  rw [h1, show e = _ from h2]
theorem hX14 (hh : holdsX h x ad) {i : Nat} (hi : i < g_nr x) : h (ad 14 i) = some (lX ((g_rms x i).map (ad 16))) := by
  obtain ⟨e, h1, h2⟩ := hh.1 14 i hi
  rw [h1, show e = _ from h2]
theorem hX15 (hh : holdsX h x ad) {r u : Nat} (hr : r < g_nr x) (hm : u ∈ g_mem x r) (h6 : u < 6) : h (adM ad r u) = some (oX 11 [.ref (ad 9 u), .int (nI (g_mk x r u))]) := by
  obtain ⟨e, h1, h2⟩ := hh.1 15 (6 * r + u) (lvM hr hm h6)
  have h3 : e = oX 11 [.ref (ad 9 ((6 * r + u) % 6)), .int (nI (g_mk x ((6 * r + u) / 6) ((6 * r + u) % 6)))] := h2
  rw [(dv6 h6).1, (dv6 h6).2] at h3
  unfold adM
  rw [h1, h3]
theorem hX16 (hh : holdsX h x ad) {i : Nat} (hi : i < g_nm x) : h (ad 16 i) = some (oX 4 [.int (nI i), .ref (ad 9 (g_au x i)), .ref (ad 12 (g_rm x i)), .int (nI (g_rk x i)), prV ad (g_pa x i), .int (nI (g_tm x i)), .int (nI (g_dp x i)), .ref (ad 17 i), .int (nI (g_ts x i)), .int (nI (g_mm x i)), .int (nI (g_ed x i)), .int (b2i (g_gone x i))]) := by
  obtain ⟨e, h1, h2⟩ := hh.1 16 i hi
  rw [h1, show e = _ from h2]
theorem hX17 (hh : holdsX h x ad) {i : Nat} (hi : i < g_nm x) : h (ad 17 i) = some (oX 7 [.ref (ad 18 i), .int (nI (g_tx x i).length)]) := by
  obtain ⟨e, h1, h2⟩ := hh.1 17 i hi
  rw [h1, show e = _ from h2]
theorem hX18 (hh : holdsX h x ad) {i : Nat} (hi : i < g_nm x) : ∃ f, h (ad 18 i) = some (aX .char 20 f) ∧ txA (g_tx x i) f := by
  obtain ⟨e, h1, f, rfl, h2⟩ := hh.1 18 i hi
  exact ⟨f, h1, h2⟩
theorem hX19 (hh : holdsX h x ad) {i : Nat} {v : gEv} (hi : (g_log x)[i]? = some v) : h (ad 19 i) = some (oX 3 [.int (nI v.1), .int v.2.1, .int v.2.2.1, .int v.2.2.2.1, .int (nI v.2.2.2.2)]) := by
  obtain ⟨e, h1, v1, h2, h3⟩ := hh.1 19 i (List.getElem?_eq_some_iff.mp hi).1
  cases hi.symm.trans h2
  rw [h1, h3]
end HX
/-- an index in a list of addresses -/
theorem gmapix {n i : Nat} (f : Nat → Nat) (h : i < n) : ((List.range n).map f)[i]? = some (f i) := by
  rw [List.getElem?_map, List.getElem?_range h]
  rfl
/-- the bounds that every reachable state keeps -/
def gBd (x : gS) : Prop := g_nu x ≤ 6 ∧ g_nr x ≤ 4 ∧ g_nm x ≤ 60 ∧ g_now x ≤ 400000 ∧ g_rf x ≤ 64 ∧ (g_log x).length ≤ 512 ∧ (∀ u, (g_dr x u).length ≤ 20) ∧ (∀ m, (g_tx x m).length ≤ 20) ∧ (∀ u, g_seen x u ≤ g_now x)
