/-! threads: sizes, and the way down -/
theorem kids_mem {x : gS} {m q : Nat} : q ∈ kids x m ↔ m < q ∧ q < g_nm x ∧ g_pa x q = some m := by
  unfold kids
  rw [List.mem_filter, List.mem_range'_1, beq_iff_eq]
  constructor
  · rintro ⟨⟨h1, h2⟩, h3⟩
    exact ⟨by omega, by omega, h3⟩
  · rintro ⟨h1, h2, h3⟩
    exact ⟨⟨by omega, by omega⟩, h3⟩
theorem kids_nd {x : gS} {m : Nat} : (kids x m).Nodup := by
  unfold kids
  exact (List.nodup_range' (step := 1) (by decide)).filter _
theorem fm_cg {f g : Nat → List Nat} : ∀ {l : List Nat}, (∀ k ∈ l, f k = g k) → l.flatMap f = l.flatMap g
  | [], _ => rfl
  | a :: l, h => by rw [List.flatMap_cons, List.flatMap_cons, h a List.mem_cons_self, fm_cg (fun k hk => h k (List.mem_cons_of_mem _ hk))]
theorem wkF_fuel {x : gS} : ∀ n n' m, g_nm x ≤ n + m → g_nm x ≤ n' + m → wkF x n m = wkF x n' m
  | 0, 0, _, _, _ => rfl
  | 0, n' + 1, m, h, _ => by
    unfold wkF kids
    rw [show g_nm x - (m + 1) = 0 by omega]
    rfl
  | n + 1, 0, m, _, h => by
    unfold wkF kids
    rw [show g_nm x - (m + 1) = 0 by omega]
    rfl
  | n + 1, n' + 1, m, h, h' => by
    unfold wkF
    congr 1
    refine fm_cg (fun k hk => ?_)
    have hk2 := kids_mem.mp hk
    exact wkF_fuel n n' k (by omega) (by omega)
/-- the kids from a number on -/
def kidsFrom (x : gS) (m q : Nat) : List Nat := (List.range' q (g_nm x - q)).filter (fun k => g_pa x k == some m)
theorem kf_end {x : gS} {m q : Nat} (h : g_nm x ≤ q) : kidsFrom x m q = [] := by
  unfold kidsFrom
  rw [show g_nm x - q = 0 by omega]
  rfl
theorem kf_step {x : gS} {m q : Nat} (h : q < g_nm x) : kidsFrom x m q = if g_pa x q = some m then q :: kidsFrom x m (q + 1) else kidsFrom x m (q + 1) := by
  unfold kidsFrom
  rw [show g_nm x - q = (g_nm x - (q + 1)) + 1 by omega, List.range'_succ, List.filter_cons]
  by_cases hq : g_pa x q = some m
  · rw [if_pos hq, if_pos (by rw [hq]; exact beq_self_eq_true _)]
  · rw [if_neg hq, if_neg (by simpa using hq)]
theorem kf_low {x : gS} (hp : ∀ m, m < g_nm x → ∀ p, g_pa x m = some p → p < m) {m : Nat} : ∀ d q, q + d = m + 1 → kidsFrom x m q = kids x m
  | 0, q, h => by
    have : q = m + 1 := by omega
    subst this
    rfl
  | d + 1, q, h => by
    by_cases hq : q < g_nm x
    · rw [kf_step hq, if_neg (fun z => by have := hp q hq m z; omega)]
      exact kf_low hp d (q + 1) (by omega)
    · rw [kf_end (by omega)]
      unfold kids
      rw [show g_nm x - (m + 1) = 0 by omega]
      rfl
theorem wk_eq {x : gS} (hm : g_nm x ≤ 60) {m : Nat} (h : 1 ≤ m ∨ g_nm x < 60 ∨ True) : wkF x 60 m = m :: (kids x m).flatMap (wkF x 60) := by
  show m :: (kids x m).flatMap (wkF x 59) = _
  congr 1
  refine fm_cg (fun k hk => ?_)
  have hk2 := kids_mem.mp hk
  exact wkF_fuel 59 60 k (by omega) (by omega)
theorem fit_ok {x : gS} (hm60 : g_nm x ≤ 60) (hp : ∀ m, m < g_nm x → ∀ p, g_pa x m = some p → p < m) (hts : ∀ m, m < g_nm x → g_ts x m = (wkF x 60 m).length) : ∀ n num f l, num + n = g_nm x → f < num → l < ((f :: (kidsFrom x f num).flatMap (wkF x 60))).length → fitN x n num f l = (f :: (kidsFrom x f num).flatMap (wkF x 60)).getD l 0
  | 0, num, f, l, h, _, hl => by
    rw [kf_end (by omega)] at hl ⊢
    have : l = 0 := by simpa using hl
    subst this
    rfl
  | n + 1, num, f, l, h, hf, hl => by
    have hn : num < g_nm x := by omega
    unfold fitN
    rw [kf_step hn] at hl ⊢
    cases l with
    | zero =>
      rw [if_neg (by omega)]
      rfl
    | succ l =>
      rw [if_pos (by omega)]
      by_cases hq : g_pa x num = some f
      · rw [if_pos hq, if_pos hq] at *
        rw [List.flatMap_cons] at hl ⊢
        have hw := hts num hn
        have hwk := wk_eq (x := x) hm60 (m := num) (Or.inr (Or.inr True.intro))
        by_cases hle : l + 1 ≤ g_ts x num
        · rw [if_pos hle, Nat.add_sub_cancel]
          have ih := fit_ok hm60 hp hts n (num + 1) num l (by omega) (by omega) (by
            show l < (num :: (kids x num).flatMap (wkF x 60)).length
            rw [← hwk]
            omega)
          rw [ih]
          show (num :: (kids x num).flatMap (wkF x 60)).getD l 0 = _
          rw [← hwk, List.getD_eq_getElem?_getD, List.getD_eq_getElem?_getD, List.getElem?_cons_succ, List.getElem?_append_left (by omega)]
        · rw [if_neg hle]
          have ih := fit_ok hm60 hp hts n (num + 1) f (l + 1 - g_ts x num) (by omega) (by omega) (by
            rw [List.length_cons, List.length_append] at hl
            rw [List.length_cons]
            omega)
          rw [ih]
          obtain ⟨l2, hl2⟩ : ∃ l2, l + 1 - g_ts x num = l2 + 1 := ⟨l - g_ts x num, by omega⟩
          rw [hl2, List.getD_eq_getElem?_getD, List.getD_eq_getElem?_getD, List.getElem?_cons_succ, List.getElem?_cons_succ, List.getElem?_append_right (by omega)]
          congr 2
          omega
      · rw [if_neg hq] at hl ⊢
        rw [if_neg hq]
        exact fit_ok hm60 hp hts n (num + 1) f (l + 1) (by omega) (by omega) hl
theorem fit_lt {x : gS} : ∀ n num f l, num + n ≤ g_nm x → f < g_nm x → fitN x n num f l < g_nm x
  | 0, _, f, _, _, h => h
  | n + 1, num, f, l, h1, h2 => by
    unfold fitN
    split
    · split
      · split
        · exact fit_lt n (num + 1) num _ (by omega) (by omega)
        · exact fit_lt n (num + 1) f _ (by omega) h2
      · exact fit_lt n (num + 1) f l (by omega) h2
    · exact h2
/-- m stands on the way up from p -/
def anc (pa : Nat → Option Nat) : Nat → Nat → Nat → Bool
  | 0, _, _ => false
  | n + 1, p, m => p == m || match pa p with
    | none => false
    | some q => anc pa n q m
theorem anc_le {pa : Nat → Option Nat} {N : Nat} (hp : ∀ m, m < N → ∀ p, pa m = some p → p < m) : ∀ n p m, p < N → anc pa n p m = true → m ≤ p
  | 0, _, _, _, h => by cases h
  | n + 1, p, m, hN, h => by
    unfold anc at h
    rw [Bool.or_eq_true] at h
    rcases h with h | h
    · rw [beq_iff_eq] at h
      omega
    · cases hq : pa p with
      | none => rw [hq] at h; cases h
      | some q =>
        rw [hq] at h
        have h1 := hp p hN q hq
        have h2 := anc_le hp n q m (by omega) h
        omega
theorem anc_n {pa : Nat → Option Nat} {N : Nat} (hp : ∀ m, m < N → ∀ p, pa m = some p → p < m) {n p q m : Nat} (hN : p < N) (hq : pa p = some q) : (anc pa (n + 1) p m).toNat = (p == m).toNat + (anc pa n q m).toNat := by
  have h1 := hp p hN q hq
  show (p == m || match pa p with
    | none => false
    | some q => anc pa n q m).toNat = _
  rw [hq]
  show (p == m || anc pa n q m).toNat = _
  by_cases hpm : p = m
  · have : anc pa n q m = false := (Bool.not_eq_true _).mp (fun z => by have := anc_le hp n q m (by omega) z; omega)
    rw [this, hpm, beq_self_eq_true]
    rfl
  · rw [show (p == m) = false from by simpa using hpm, Bool.false_or]
    simp
theorem anc_0 {pa : Nat → Option Nat} {n p m : Nat} (hq : pa p = none) : anc pa (n + 1) p m = (p == m) := by
  show (p == m || match pa p with
    | none => false
    | some q => anc pa n q m) = _
  rw [hq, Bool.or_false]
/-- growThreads counts one for each on the way up -/
theorem tsA_anc {pa : Nat → Option Nat} {N : Nat} (hp : ∀ m, m < N → ∀ p, pa m = some p → p < m) : ∀ n p f m, p < N → tsA pa n (some p) f m = f m + (anc pa n p m).toNat
  | 0, _, _, _, _ => rfl
  | n + 1, p, f, m, hN => by
    show tsA pa n (pa p) (gup f p (f p + 1)) m = _
    have hg : gup f p (f p + 1) m = f m + (p == m).toNat := by
      by_cases hpm : m = p
      · subst hpm
        rw [gup_at, beq_self_eq_true]
        rfl
      · rw [gup_of hpm, show (p == m) = false from by simpa using fun z : p = m => hpm z.symm]
        rfl
    cases hq : pa p with
    | none =>
      rw [anc_0 hq]
      have hn : ∀ (k : Nat) (f : Nat → Nat), tsA pa k none f = f := fun k f => by cases k <;> rfl
      rw [hn, hg]
    | some q =>
      have h1 := hp p hN q hq
      rw [tsA_anc hp n q _ m (by omega), hg, anc_n hp hN hq]
      omega
theorem cp_eq1 {l : List Nat} {p : Nat} (h : l.Nodup) : l.countP (fun k => p == k) = (decide (p ∈ l)).toNat := by
  induction l with
  | nil => rfl
  | cons a l ih =>
    rw [List.nodup_cons] at h
    rw [List.countP_cons, ih h.2]
    by_cases hpa : p = a
    · subst hpa
      rw [if_pos (beq_self_eq_true p), decide_eq_false h.1, decide_eq_true List.mem_cons_self]
      rfl
    · rw [if_neg (by simpa using hpa), Nat.add_zero]
      by_cases hm : p ∈ l
      · rw [decide_eq_true hm, decide_eq_true (List.mem_cons_of_mem _ hm)]
      · rw [decide_eq_false hm, decide_eq_false (fun z => (List.mem_cons.mp z).elim hpa hm)]
theorem cp_sum {l : List Nat} {p : Nat → Bool} {f g : Nat → Nat} (h : ∀ k ∈ l, f k = g k + (p k).toNat) : (l.map f).sum = (l.map g).sum + l.countP p := by
  induction l with
  | nil => rfl
  | cons a l ih =>
    rw [List.map_cons, List.map_cons, List.sum_cons, List.sum_cons, List.countP_cons, ih (fun k hk => h k (List.mem_cons_of_mem _ hk)), h a List.mem_cons_self]
    cases p a <;> simp <;> omega
theorem anc_kids {x : gS} (hp : ∀ m, m < g_nm x → ∀ p, g_pa x m = some p → p < m) : ∀ n p m, p < n → p < g_nm x → (kids x m).countP (fun k => anc (g_pa x) n p k) + (p == m).toNat = (anc (g_pa x) n p m).toNat
  | 0, p, _, h, _ => absurd h (Nat.not_lt_zero p)
  | n + 1, p, m, h, hN => by
    cases hq : g_pa x p with
    | none =>
      have e : (fun k => anc (g_pa x) (n + 1) p k) = fun k => p == k := by
        funext k
        exact anc_0 hq
      rw [e, cp_eq1 kids_nd, anc_0 hq, decide_eq_false (fun z => by have := (kids_mem.mp z).2.2; rw [hq] at this; cases this)]
      simp
    | some q =>
      have h1 := hp p hN q hq
      have e : (kids x m).countP (fun k => anc (g_pa x) (n + 1) p k) = (kids x m).countP (fun k => p == k) + (kids x m).countP (fun k => anc (g_pa x) n q k) := by
        have z : ∀ l : List Nat, l.countP (fun k => anc (g_pa x) (n + 1) p k) = l.countP (fun k => p == k) + l.countP (fun k => anc (g_pa x) n q k) := fun l => by
          induction l with
          | nil => rfl
          | cons a l ih =>
            rw [List.countP_cons, List.countP_cons, List.countP_cons, ih]
            have w := anc_n hp (n := n) (m := a) hN hq
            cases h1 : anc (g_pa x) (n + 1) p a <;> cases h2 : (p == a) <;> cases h3 : anc (g_pa x) n q a <;> rw [h1, h2, h3] at w <;> simp at w ⊢ <;> omega
        exact z _
      rw [e, cp_eq1 kids_nd, anc_n hp hN hq]
      have ih := anc_kids hp n q m (by omega) (by omega)
      have hk : (decide (p ∈ kids x m)).toNat = (q == m).toNat := by
        by_cases hqm : q = m
        · rw [hqm, beq_self_eq_true, decide_eq_true (kids_mem.mpr ⟨by omega, hN, by rw [hq, hqm]⟩)]
        · rw [show (q == m) = false from by simpa using hqm, decide_eq_false (fun z => by have w := (kids_mem.mp z).2.2; rw [hq] at w; exact hqm (Option.some.inj w))]
      rw [hk]
      omega
/-- a new message makes the threads of those above it longer by one -/
theorem wk_new {x x1 : gS} {p : Option Nat} (hnm : g_nm x1 = g_nm x + 1) (hpa : g_pa x1 = gup (g_pa x) (g_nm x) p) (hp : ∀ m, m < g_nm x → ∀ p, g_pa x m = some p → p < m) (hpp : ∀ q, p = some q → q < g_nm x) : ∀ n m, m < g_nm x → g_nm x ≤ n + m → (wkF x1 n m).length = (wkF x n m).length + (match p with
    | none => 0
    | some q => (anc (g_pa x) (g_nm x) q m).toNat)
  | 0, m, h1, h2 => by omega
  | n + 1, m, h1, h2 => by
    have hk : kids x1 m = kids x m ++ (if p = some m then [g_nm x] else []) := by
      unfold kids
      rw [hnm, show g_nm x + 1 - (m + 1) = (g_nm x - (m + 1)) + 1 by omega, List.range'_concat, List.filter_append, Nat.one_mul, show m + 1 + (g_nm x - (m + 1)) = g_nm x by omega, hpa]
      congr 1
      · refine List.filter_congr (fun k hk => ?_)
        have := List.mem_range'_1.mp hk
        rw [gup_of (by omega)]
      · rw [List.filter_cons, List.filter_nil, gup_at]
        by_cases hq : p = some m
        · rw [if_pos hq, if_pos (by rw [hq]; exact beq_self_eq_true _)]
        · rw [if_neg hq, if_neg (by simpa using hq)]
    have hnew : (wkF x1 n (g_nm x)).length = 1 := by
      cases n with
      | zero => rfl
      | succ n =>
        unfold wkF kids
        rw [hnm, Nat.sub_self]
        rfl
    have f1 : ((kids x m).flatMap (wkF x1 n)).length = ((kids x m).map (fun k => (wkF x1 n k).length)).sum := List.length_flatMap
    have f2 : ((kids x m).flatMap (wkF x n)).length = ((kids x m).map (fun k => (wkF x n k).length)).sum := List.length_flatMap
    have f3 : ([g_nm x].flatMap (wkF x1 n)).length = 1 := by
      rw [List.flatMap_cons, List.flatMap_nil, List.append_nil]
      exact hnew
    have f4 : (wkF x1 (n + 1) m).length = ((kids x m).flatMap (wkF x1 n)).length + ((if p = some m then [g_nm x] else []).flatMap (wkF x1 n)).length + 1 := by
      show (m :: (kids x1 m).flatMap (wkF x1 n)).length = _
      rw [hk, List.length_cons, List.flatMap_append, List.length_append]
    have f5 : (wkF x (n + 1) m).length = ((kids x m).flatMap (wkF x n)).length + 1 := rfl
    rw [f4, f5, f1, f2]
    cases p with
    | none =>
      have e := cp_sum (l := kids x m) (p := fun _ => false) (f := fun k => (wkF x1 n k).length) (g := fun k => (wkF x n k).length) (fun k hk2 => by
        have w := kids_mem.mp hk2
        have ih := wk_new hnm hpa hp hpp n k (by omega) (by omega)
        exact ih)
      have z : (kids x m).countP (fun _ => false) = 0 := by
        rw [List.countP_eq_zero]
        intro a _ h
        cases h
      rw [e, z, if_neg (by intro q; cases q)]
      rfl
    | some q =>
      have hqn := hpp q rfl
      have e := cp_sum (l := kids x m) (p := fun k => anc (g_pa x) (g_nm x) q k) (f := fun k => (wkF x1 n k).length) (g := fun k => (wkF x n k).length) (fun k hk2 => by
        have w := kids_mem.mp hk2
        exact wk_new hnm hpa hp hpp n k (by omega) (by omega))
      have a := anc_kids hp (g_nm x) q m hqn hqn
      rw [e]
      show _ = _ + (anc (g_pa x) (g_nm x) q m).toNat
      by_cases hqm : q = m
      · rw [if_pos (by rw [hqm]), f3]
        have a2 : (q == m).toNat = 1 := by rw [hqm, beq_self_eq_true]; rfl
        omega
      · rw [if_neg (fun z => hqm (Option.some.inj z))]
        have a2 : (q == m).toNat = 0 := by rw [show (q == m) = false from by simpa using hqm]; rfl
        have a3 : (([] : List Nat).flatMap (wkF x1 n)).length = 0 := rfl
        omega
