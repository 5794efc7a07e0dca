/-! the law: what its cases share -/
theorem holdsM.mv {h h1 : gH} {x : gS} {am : Nat → Nat} {th : Int32} (m : holdsM h x am th) (f : ∀ q e, h q = some e → e.2.1 = 2 → h1 q = some e) : holdsM h1 x am th := by
  obtain ⟨wk, y, tk, ⟨g0, g1, g2, g3⟩, ha⟩ := m
  exact ⟨wk, y, tk, ⟨f _ _ g0 rfl, fun k k1 k2 k4 => f _ _ (g1 k k1 k2 k4) rfl, f _ _ g2 rfl, g3⟩, ha⟩
theorem gfw.k {q0 : Nat} {h h1 : gH} {e0 : gA ⊕ ((Nat × List Value) ⊕ List Nat)} (f : gfw q0 h h1) (hq : h q0 = some (true, 3, e0)) : ∀ q e, h q = some e → e.2.1 ≠ 1 → e.2.1 ≠ 3 → h1 q = some e := fun q e h2 n1 n3 => f q e h2 n1 (fun z => by rw [z, hq] at h2; cases h2; exact n3 rfl)
/-- what stands between two calls of the law -/
def lawI (h : gH) (x : gS) (ad : Nat → Nat → Nat) (am : Nat → Nat) (b L q3 q4 : Nat) (xs : Nat → Int32) : Prop := holdsX h x ad ∧ (∃ th, holdsM h x am th) ∧ lawS h b L xs ∧ (∃ f, h q3 = some (aW f)) ∧ (∃ f, h q4 = some (aV f)) ∧ q3 ≠ q4
theorem es_ix {es : List String} (hn : es.Nodup) {i j : Nat} {E : String} (h1 : es[i]? = some E) (h2 : es[j]? = some E) : i = j := by
  obtain ⟨a1, b1⟩ := List.getElem?_eq_some_iff.mp h1
  obtain ⟨a2, b2⟩ := List.getElem?_eq_some_iff.mp h2
  exact (List.getElem_inj hn).mp (b1.trans b2.symm)
theorem sameW {ty : Value → Prop} {es : List String} {o : gO} {c t : Int32} {w : Int64} {v : Value} (hn : es.Nodup) (hl : es.length < 10) (h1 : cW es o c w) (h2 : cdO ty es o t v) : t = c ∧ (c = nI 0 → (∃ n, v = .int n ∧ w = n.toInt64) ∨ ∃ n, v = .long n ∧ w = n) := by
  unfold cW at h1
  unfold cdO at h2
  split at h1
  · obtain ⟨rfl, rfl⟩ := h1
    obtain ⟨rfl, rfl⟩ := h2
    exact ⟨rfl, fun _ => Or.inl ⟨_, rfl, rfl⟩⟩
  · obtain ⟨rfl, rfl⟩ := h1
    obtain ⟨rfl, rfl⟩ := h2
    exact ⟨rfl, fun _ => Or.inr ⟨_, rfl, rfl⟩⟩
  · obtain ⟨j, j1, rfl⟩ := h1
    obtain ⟨⟨i, i1, rfl⟩, -⟩ := h2
    have hj := (List.getElem?_eq_some_iff.mp j1).1
    have e := es_ix hn i1 j1
    subst e
    exact ⟨rfl, fun z => by rw [neq (by omega) (by omega)] at z; omega⟩
  · exact h1.elim
theorem sameV {ty : Value → Prop} {es : List String} {o : gO} {c t : Int32} {w : UInt64} {v : Value} (hn : es.Nodup) (hl : es.length < 10) (h1 : cV es o c w) (h2 : cdO ty es o t v) : t = c ∧ (c = nI 0 → (∃ n, o = .inl (some (.float n)) ∧ v = .float n ∧ w = FP.f2d n) ∨ ∃ n, o = .inl (some (.double n)) ∧ v = .double n ∧ w = n) := by
  unfold cV at h1
  unfold cdO at h2
  split at h1
  · obtain ⟨rfl, rfl⟩ := h1
    obtain ⟨rfl, rfl⟩ := h2
    exact ⟨rfl, fun _ => Or.inl ⟨_, rfl, rfl, rfl⟩⟩
  · obtain ⟨rfl, rfl⟩ := h1
    obtain ⟨rfl, rfl⟩ := h2
    exact ⟨rfl, fun _ => Or.inr ⟨_, rfl, rfl, rfl⟩⟩
  · obtain ⟨j, j1, rfl⟩ := h1
    obtain ⟨⟨i, i1, rfl⟩, -⟩ := h2
    have hj := (List.getElem?_eq_some_iff.mp j1).1
    have e := es_ix hn i1 j1
    subst e
    exact ⟨rfl, fun z => by rw [neq (by omega) (by omega)] at z; omega⟩
  · exact h1.elim
theorem shC {p ty : Value → Prop} {es : List String} {o : gO} {t : Int32} {v : Value} (hp : ∀ v, p v → ty v) (h1 : sh p es o) (h2 : cdO ty es o t v) : ty v := by
  unfold cdO at h2
  rcases h1 with ⟨w, rfl, hw⟩ | ⟨j, E, hj, rfl⟩
  · rw [h2.2]
    exact hp w hw
  · exact h2.2
theorem pB_I (v : Value) (h : pB v) : tI v := by
  obtain ⟨b, rfl⟩ := h
  exact ⟨_, rfl⟩
theorem lcmp_self (v : Int64) : lg_cmp v v = 0 := by
  unfold lg_cmp
  simp
theorem i2c_ex (v : Int32) : ∃ c, c < 65536 ∧ (v.toUInt32 % 65536).toInt32 = nI c := by
  refine ⟨v.toUInt32.toNat % 65536, Nat.mod_lt _ (by decide), ?_⟩
  unfold nI
  apply Int32.toBitVec_inj.mp
  apply BitVec.eq_of_toNat_eq
  simp
  have hm := Nat.mod_lt v.toUInt32.toNat (show 0 < 65536 by decide)
  show v.toUInt32.toNat % 65536 = _
  omega
