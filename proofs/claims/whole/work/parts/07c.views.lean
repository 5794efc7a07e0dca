/-! LISTS OPENED AND CLOSED: the same heap, seen in two ways -/
def gview (G : gG) (h1 h : gH) : Prop := ∀ H : Heap, gR G.2.1 G.2.2.2.1 G.2.2.2.2 h1 H → gR G.2.1 G.2.2.2.1 G.2.2.2.2 h H
theorem gview.rf {G : gG} {h : gH} : gview G h h := fun _ q => q
def gup2 (G : gG) (Q : gQ) : gQ := fun o h1 => ∃ h : gH, gview G h1 h ∧ Q o h
theorem gd_up {nL : Nat} {X : gX} {Q : gQ} {pc : Nat} {lv : gL} {st : List Value} {h : gH} {kc ks : Nat} (k : gd nL X (gup2 X.1 Q) pc lv st h kc ks) : gd nL X Q pc lv st h kc ks := by
  obtain ⟨G, p, e, s, m, args, below, meth, c, d', MC, MS⟩ := X
  intro H locs cells slots ls hlv hR hS hc hs T hT X
  obtain ⟨t, a1, o, b1, b2, b3⟩ := k H locs cells slots ls hlv hR hS hc hs T hT X
  refine ⟨t, a1, o, b1, b2, ?_⟩
  rcases b3 with ⟨⟨⟨v, h1, e1, ⟨h2, v2, q2⟩, r1⟩, F⟩, b4⟩ | ⟨q, e1, E, ce, L, ⟨⟨h1, ⟨h2, v2, q2⟩, r1⟩, F⟩, b4⟩
  · exact Or.inl ⟨⟨⟨v, h2, e1, q2, v2 _ r1⟩, F⟩, b4⟩
  · exact Or.inr ⟨q, e1, E, ce, L, ⟨⟨h2, q2, v2 _ r1⟩, F⟩, b4⟩
theorem gd_view {nL : Nat} {X : gX} {Q : gQ} {pc : Nat} {lv : gL} {st : List Value} {h h1 : gH} {kc ks : Nat} (hv : gview X.1 h1 h) (k : gd nL X Q pc lv st h kc ks) : gd nL X Q pc lv st h1 kc ks := by
  obtain ⟨G, p, e, s, m, args, below, meth, c, d', MC, MS⟩ := X
  intro H locs cells slots ls hlv hR hS hc hs
  exact k H locs cells slots ls hlv (hv H hR) hS hc hs
def gHasEd (h : gH) : Prop := ∃ (e0 : Nat) (x : (Nat → Int32) ⊕ (Nat → Int64) ⊕ (Nat → UInt32) ⊕ (Nat → UInt64) ⊕ (Nat → Option Nat)), h e0 = some (false, 77, .inl (tObj, 0, x))
abbrev gLO (md : Int32) (ea n : Nat) : gA ⊕ ((Nat × List Value) ⊕ List Nat) := .inr (.inl (ciAL, [.int md, .ref ea, .int (nI n)]))
theorem gd_open {nL : Nat} {X : gX} {Q : gQ} {pc : Nat} {lv : gL} {st : List Value} {h : gH} {kc ks a t e0 : Nat} {us : List Nat} {x0 : gA} (hq : h a = some (true, t, .inr (.inr us))) (he : h e0 = some (false, 77, .inl x0))
    (k0 : us = [] → ∀ md : Int32, gd nL X Q pc lv st (gset h a (true, t, gLO md e0 0)) kc ks)
    (k1 : ∀ (md : Int32) (ea n : Nat) (f : Nat → Option Nat), h ea = none → us.length ≤ n → 10 ≤ n → n ≤ 1000 → (∀ i, i < us.length → f i = us[i]?) → gd nL X Q pc lv st (gset (gset h a (true, t, gLO md ea us.length)) ea (true, 1, .inl (tObj, n, gRef f))) kc ks) : gd nL X Q pc lv st h kc ks := by
  obtain ⟨G, p, e, s, m, args, below, meth, c, d', MC, MS⟩ := X
  intro H locs cells slots ls hlv hR hS hc hs
  have hlt : ∀ (b : Nat) (e' : gE), h b = some e' → b < H.size := fun b e' hb => hR.lt hb
  have hown := hR.own hq
  obtain ⟨g1, g2, hid, g3, g4⟩ := id hR
  obtain ⟨-, md, q1, q2⟩ := g3 a _ hq
  rcases q2 with ⟨rfl, hea, -⟩ | ⟨hn0, hnone, cA, n, f, q3, q4, q5, q6, q7, q8, q9⟩
  · have he0 : e0 = G.2.2.2.2 := (g3 e0 _ he).1 rfl
    refine k0 rfl md H locs cells slots ls hlv ⟨g1, g2, hid, fun b e' hb => ?_, fun b b2 t1 t2 vs ws hb hb2 hn hh => ?_⟩ hS hc hs
    · by_cases hba : b = a
      · subst hba
        rw [gset_self] at hb
        cases hb
        rw [he0, ← hea]
        exact ⟨hown, q1⟩
      · rw [gset_ne hba] at hb
        refine (g3 b e' hb).keep rfl rfl (fun t9 vs hv h1 h2 h3 => ⟨rfl, ?_⟩)
        rw [gset_ne (fun z => by rw [z, hq] at h2; cases h2)]
        exact h2
    · have na : ∀ (b t1 : Nat) (us : List Nat), gset h a (true, t, gLO md e0 0) b = some (true, t1, .inr (.inr us)) → h b = some (true, t1, .inr (.inr us)) := by
        intro b t1 us hb
        by_cases hba : b = a
        · subst hba
          rw [gset_self] at hb
          cases hb
        · rwa [gset_ne hba] at hb
      exact g4 b b2 t1 t2 vs ws (na b t1 vs hb) (na b2 t2 ws hb2) hn hh
  · have hne : hid a ≠ a := fun z => by rw [z, hq] at hnone; cases hnone
    refine k1 md (hid a) n f hnone q6 q7 q8 q9 H locs cells slots ls hlv ⟨g1, g2, hid, fun b e' hb => ?_, fun b b2 t1 t2 vs ws hb hb2 hn hh => ?_⟩ hS hc hs
    · by_cases hbe : b = hid a
      · subst hbe
        rw [gset_self] at hb
        cases hb
        exact ⟨hn0, cA, q3, q4, q5⟩
      · rw [gset_ne hbe] at hb
        by_cases hba : b = a
        · subst hba
          rw [gset_self] at hb
          cases hb
          exact ⟨hown, q1⟩
        · rw [gset_ne hba] at hb
          refine (g3 b e' hb).keep rfl rfl (fun t9 vs hv h1 h2 h3 => ⟨rfl, ?_⟩)
          have hb9 : hid b ≠ hid a := by
            intro z
            subst hv
            exact hba (g4 b a t9 t vs us hb hq h1 z)
          rw [gset_ne hb9, gset_ne (fun z => by rw [z, hq] at h2; cases h2)]
          exact h2
    · have na : ∀ (b t1 : Nat) (vs : List Nat), gset (gset h a (true, t, gLO md (hid a) us.length)) (hid a) (true, 1, .inl (tObj, n, gRef f)) b = some (true, t1, .inr (.inr vs)) → h b = some (true, t1, .inr (.inr vs)) := by
        intro b t1 vs hb
        by_cases hbe : b = hid a
        · subst hbe
          rw [gset_self] at hb
          cases hb
        · rw [gset_ne hbe] at hb
          by_cases hba : b = a
          · subst hba
            rw [gset_self] at hb
            cases hb
          · rwa [gset_ne hba] at hb
      exact g4 b b2 t1 t2 vs ws (na b t1 vs hb) (na b2 t2 ws hb2) hn hh
/-- the rows behind the lists, one more named -/
theorem ghid (hid : Nat → Nat) (a ea : Nat) : ∃ f : Nat → Nat, f a = ea ∧ ∀ b, b ≠ a → f b = hid b := ⟨fun b => if b = a then ea else hid b, if_pos rfl, fun b hb => if_neg hb⟩
theorem gview_close0 {G : gG} {h : gH} {a t e0 : Nat} {x0 : gA} {md : Int32} (hne : e0 ≠ a) (he : h e0 = some (false, 77, .inl x0)) : gview G (gset h a (true, t, gLO md e0 0)) (gset h a (true, t, .inr (.inr []))) := by
  intro H hR
  have hq : gset h a (true, t, gLO md e0 0) a = some (true, t, gLO md e0 0) := gset_self _ _ _
  have he2 : gset h a (true, t, gLO md e0 0) e0 = some (false, 77, .inl x0) := by rw [gset_ne hne]; exact he
  have hown := hR.own hq
  obtain ⟨g1, g2, hid, g3, g4⟩ := id hR
  have h3 := g3 e0 _ he2
  obtain ⟨h31, cell, h32, -⟩ := h3
  have he0 : e0 = G.2.2.2.2 := h31 rfl
  have hlt0 : e0 < G.2.1.heap.size := (Array.getElem?_eq_some_iff.mp h32).1
  obtain ⟨hid1, hh1, hh2⟩ := ghid hid a e0
  refine ⟨g1, g2, hid1, fun b e' hb => ?_, fun b b2 t1 t2 vs ws hb hb2 hn hh => ?_⟩
  · by_cases hba : b = a
    · subst hba
      rw [gset_self] at hb
      cases hb
      refine ⟨hown, md, ?_, Or.inl ⟨rfl, hh1.trans he0, by omega⟩⟩
      rw [hh1]
      exact (g3 b _ hq).2
    · rw [gset_ne hba] at hb
      refine (g3 b e' (by rw [gset_ne hba]; exact hb)).keep rfl (hh2 b hba) (fun t9 vs hv h1 h2 h3 => ⟨rfl, ?_⟩)
      by_cases hz : hid b = a
      · rw [hz, gset_self] at h2
        cases h2
      · rw [gset_ne hz] at h2 ⊢
        exact h2
  · have key : ∀ (b t1 : Nat) (vs : List Nat), gset h a (true, t, .inr (.inr [])) b = some (true, t1, .inr (.inr vs)) → G.2.1.heap.size ≤ hid1 b → b ≠ a ∧ gset h a (true, t, gLO md e0 0) b = some (true, t1, .inr (.inr vs)) := by
      intro b t1 vs hb hn
      by_cases hba : b = a
      · rw [hba, hh1] at hn
        omega
      · rw [gset_ne hba] at hb ⊢
        exact ⟨hba, hb⟩
    obtain ⟨n1, p1⟩ := key b t1 vs hb hn
    obtain ⟨n2, p2⟩ := key b2 t2 ws hb2 (by rw [← hh]; exact hn)
    rw [hh2 b n1] at hn hh
    rw [hh2 b2 n2] at hh
    exact g4 b b2 t1 t2 vs ws p1 p2 hn hh
theorem gview_close1 {G : gG} {h : gH} {a t t2 ea n : Nat} {md : Int32} {f : Nat → Option Nat} {us : List Nat} (hne : ea ≠ a) (hno : h ea = none) (hl : us.length ≤ n) (hn10 : 10 ≤ n) (hn : n ≤ 1000) (hf : ∀ i, i < us.length → f i = us[i]?) : gview G (gset (gset h a (true, t, gLO md ea us.length)) ea (true, t2, .inl (tObj, n, gRef f))) (gset h a (true, t, .inr (.inr us))) := by
  intro H hR
  have hq : gset (gset h a (true, t, gLO md ea us.length)) ea (true, t2, .inl (tObj, n, gRef f)) a = some (true, t, gLO md ea us.length) := by rw [gset_ne (Ne.symm hne), gset_self]
  have hq2 : gset (gset h a (true, t, gLO md ea us.length)) ea (true, t2, .inl (tObj, n, gRef f)) ea = some (true, t2, .inl (tObj, n, gRef f)) := gset_self _ _ _
  have hown := hR.own hq
  have hown2 := hR.own hq2
  obtain ⟨cA, q1, q2, q3⟩ := hR.arrW hq2
  obtain ⟨g1, g2, hid, g3, g4⟩ := id hR
  have hraw : ∀ (b : Nat) (e' : gE), b ≠ a → h b = some e' → b ≠ ea ∧ gset (gset h a (true, t, gLO md ea us.length)) ea (true, t2, .inl (tObj, n, gRef f)) b = some e' := by
    intro b e' hba hb
    have hbe : b ≠ ea := fun z => by rw [z, hno] at hb; cases hb
    exact ⟨hbe, by rw [gset_ne hbe, gset_ne hba]; exact hb⟩
  have hidne : ∀ (b t1 : Nat) (vs : List Nat), gset (gset h a (true, t, gLO md ea us.length)) ea (true, t2, .inl (tObj, n, gRef f)) b = some (true, t1, .inr (.inr vs)) → hid b ≠ ea := by
    intro b t1 vs hb hz
    obtain ⟨-, md9, -, r⟩ := g3 b _ hb
    rcases r with ⟨-, r1, r2⟩ | ⟨-, r, -⟩
    · omega
    · rw [hz, gset_self] at r
      cases r
  obtain ⟨hid1, hh1, hh2⟩ := ghid hid a ea
  refine ⟨g1, g2, hid1, fun b e' hb => ?_, fun b b2 t1 t9 vs ws hb hb2 hn hh => ?_⟩
  · by_cases hba : b = a
    · subst hba
      rw [gset_self] at hb
      cases hb
      refine ⟨hown, md, ?_, Or.inr ⟨by rw [hh1]; exact hown2, ?_, cA, n, f, by rw [hh1]; exact q1, q2, q3, hl, hn10, hn, hf⟩⟩
      · rw [hh1]
        exact (g3 b _ hq).2
      · rw [hh1, gset_ne hne]
        exact hno
    · rw [gset_ne hba] at hb
      obtain ⟨hbe, hr⟩ := hraw b e' hba hb
      refine (g3 b e' hr).keep rfl (hh2 b hba) (fun t9 vs hv h1 h2 h3 => ⟨rfl, ?_⟩)
      subst hv
      have n1 := hidne b t9 vs hr
      by_cases hz : hid b = a
      · rw [hz, hq] at h2
        cases h2
      · rw [gset_ne n1, gset_ne hz] at h2
        rw [gset_ne hz]
        exact h2
  · have key : ∀ (b t1 : Nat) (vs : List Nat), b ≠ a → gset h a (true, t, .inr (.inr us)) b = some (true, t1, .inr (.inr vs)) → gset (gset h a (true, t, gLO md ea us.length)) ea (true, t2, .inl (tObj, n, gRef f)) b = some (true, t1, .inr (.inr vs)) := by
      intro b t1 vs hba hb
      rw [gset_ne hba] at hb
      exact (hraw b _ hba hb).2
    by_cases n1 : b = a
    · by_cases n2 : b2 = a
      · rw [n1, n2]
      · have p2 := key b2 t9 ws n2 hb2
        rw [n1, hh1, hh2 b2 n2] at hh
        exact absurd hh.symm (hidne b2 t9 ws p2)
    · have p1 := key b t1 vs n1 hb
      by_cases n2 : b2 = a
      · rw [n2, hh1, hh2 b n1] at hh
        exact absurd hh (hidne b t1 vs p1)
      · have p2 := key b2 t9 ws n2 hb2
        rw [hh2 b n1] at hn hh
        rw [hh2 b2 n2] at hh
        exact g4 b b2 t1 t9 vs ws p1 p2 hn hh
