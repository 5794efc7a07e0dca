/-! what the reference needs of a state; how it tells what came of a call -/
/-- a thread, as the reference walks it -/
def kids (x : gS) (m : Nat) : List Nat := (List.range' (m + 1) (g_nm x - (m + 1))).filter (fun q => g_pa x q == some m)
def wkF (x : gS) : Nat → Nat → List Nat
  | 0, m => [m]
  | n + 1, m => m :: (kids x m).flatMap (wkF x n)
def vX (x : gS) : Prop := iX x ∧
  ((∀ m, m < g_nm x → ∀ j, j < (g_tx x m).length → (g_tx x m).getD j 0 < 128) ∧ (∀ u, u < 6 → ∀ j, j < (g_dr x u).length → (g_dr x u).getD j 0 < 128)) ∧
  (∀ r, g_rms x r = flt x r (g_nm x)) ∧
  (∀ m, m < g_nm x → g_rk x m = (List.range m).countP (fun q => g_rm x q == g_rm x m)) ∧
  (∀ m, m < g_nm x → ∀ u, u < 6 → ((g_mm x m).testBit u = true ↔ ¬ g_au x m = u ∧ (mkB (g_th x m)).testBit u = true ∧ lett (g_tx x m) u)) ∧
  (∀ m, m < g_nm x → g_dp x m = match g_pa x m with
    | none => 0
    | some p => g_dp x p + 1) ∧
  (∀ m, m < g_nm x → g_ts x m = (wkF x 60 m).length ∧ ∀ i, i < g_ts x m → (wkF x 60 m).getD i 0 = fitN x (g_nm x - (m + 1)) (m + 1) m i) ∧
  (∀ m, g_nm x ≤ m → g_ed x m = 0 ∧ g_gone x m = false) ∧
  ((∀ r, g_nr x ≤ r → g_mem x r = []) ∧ (∀ u, g_nu x ≤ u → g_dr x u = [])) ∧
  ((g_log x).length < 512 ∧ ∀ v ∈ g_log x, ∃ k, k < 9 ∧ v.1 = kcode k)
section VXA
variable {x : gS}
theorem vX.i (h : vX x) : iX x := h.1
theorem vX.tx (h : vX x) : ∀ m, m < g_nm x → ∀ j, j < (g_tx x m).length → (g_tx x m).getD j 0 < 128 := h.2.1.1
theorem vX.dr (h : vX x) : ∀ u, u < 6 → ∀ j, j < (g_dr x u).length → (g_dr x u).getD j 0 < 128 := h.2.1.2
theorem vX.rms (h : vX x) : ∀ r, g_rms x r = flt x r (g_nm x) := h.2.2.1
theorem vX.rk (h : vX x) : ∀ m, m < g_nm x → g_rk x m = (List.range m).countP (fun q => g_rm x q == g_rm x m) := h.2.2.2.1
theorem vX.mm (h : vX x) : ∀ m, m < g_nm x → ∀ u, u < 6 → ((g_mm x m).testBit u = true ↔ ¬ g_au x m = u ∧ (mkB (g_th x m)).testBit u = true ∧ lett (g_tx x m) u) := h.2.2.2.2.1
theorem vX.dp (h : vX x) : ∀ m, m < g_nm x → g_dp x m = match g_pa x m with
    | none => 0
    | some p => g_dp x p + 1 := h.2.2.2.2.2.1
theorem vX.wk (h : vX x) : ∀ m, m < g_nm x → g_ts x m = (wkF x 60 m).length ∧ ∀ i, i < g_ts x m → (wkF x 60 m).getD i 0 = fitN x (g_nm x - (m + 1)) (m + 1) m i := h.2.2.2.2.2.2.1
theorem vX.z (h : vX x) : ∀ m, g_nm x ≤ m → g_ed x m = 0 ∧ g_gone x m = false := h.2.2.2.2.2.2.2.1
theorem vX.mem0 (h : vX x) : ∀ r, g_nr x ≤ r → g_mem x r = [] := h.2.2.2.2.2.2.2.2.1.1
theorem vX.dr0 (h : vX x) : ∀ u, g_nu x ≤ u → g_dr x u = [] := h.2.2.2.2.2.2.2.2.1.2
theorem vX.lg (h : vX x) : (g_log x).length < 512 := h.2.2.2.2.2.2.2.2.2.1
theorem vX.ks (h : vX x) : ∀ v ∈ g_log x, ∃ k, k < 9 ∧ v.1 = kcode k := h.2.2.2.2.2.2.2.2.2.2
theorem vX.u (h : vX x) : g_nu x < 7 := Nat.lt_succ_of_le h.1.1.1
theorem vX.r (h : vX x) : g_nr x < 5 := Nat.lt_succ_of_le h.1.1.2.1
theorem vX.m (h : vX x) : g_nm x < 61 := Nat.lt_succ_of_le h.1.1.2.2.1
theorem vX.gu (h : vX x) {u : Int32} {i : Nat} (hg : gix (g_nu x) u = some i) : i < g_nu x ∧ i < 6 ∧ u = nI i := by
  have h1 := h.u
  obtain ⟨a, b⟩ := gix_some (by omega) hg
  exact ⟨a, by omega, b⟩
theorem vX.gr (h : vX x) {u : Int32} {i : Nat} (hg : gix (g_nr x) u = some i) : i < g_nr x ∧ i < 4 ∧ u = nI i := by
  have h1 := h.r
  obtain ⟨a, b⟩ := gix_some (by omega) hg
  exact ⟨a, by omega, b⟩
theorem vX.gm (h : vX x) {u : Int32} {i : Nat} (hg : gix (g_nm x) u = some i) : i < g_nm x ∧ i < 60 ∧ u = nI i := by
  have h1 := h.m
  obtain ⟨a, b⟩ := gix_some (by omega) hg
  exact ⟨a, by omega, b⟩
theorem vX.me (h : vX x) (r : Nat) : (g_mem x r).length ≤ 6 ∧ ∀ j, j < (g_mem x r).length → (g_mem x r).getD j 0 < 6 := by
  refine ⟨(h.1.2.1 r).2.1, fun j hj => ?_⟩
  have hv := List.getElem?_eq_getElem hj
  rw [List.getD_eq_getElem?_getD, hv]
  have h1 := (h.1.2.1 r).2.2 _ (List.getElem_mem hj)
  have h2 := h.u
  show (g_mem x r)[j] < 6
  omega
theorem vX.cn (h : vX x) (r : Nat) : (List.range (g_nm x)).countP (fun m => g_rm x m == r) = (g_rms x r).length := by
  rw [h.rms r]
  unfold flt
  rw [List.countP_eq_length_filter]
end VXA
/-- what the reference's answer and its code say, beside the class's -/
def tI (v : Value) : Prop := ∃ z : Int32, v = .int z
def tF (v : Value) : Prop := ∃ z : UInt32, v = .float z
def tD (v : Value) : Prop := ∃ z : UInt64, v = .double z
def tL (v : Value) : Prop := ∃ z : Int64, v = .long z
def cdO (ty : Value → Prop) (es : List String) (o : gO) (th : Int32) (v : Value) : Prop := match o with
  | .inl (some w) => th = nI 0 ∧ v = w
  | .inl none => False
  | .inr E => (∃ j, es[j]? = some E ∧ th = nI (j + 1)) ∧ ty v
def pM (ty : Value → Prop) (es : List String) (o : gO × gS) (h : gH) (am : Nat → Nat) (Q : gQ) : Prop := ∀ h1 th v, holdsM h1 o.2 am th → gfm h h1 → cdO ty es o.1 th v → Q (.inl (some v)) h1
section PMA
variable {ty : Value → Prop} {es : List String} {o : gO × gS} {h h1 : gH} {am : Nat → Nat} {Q : gQ} {x : gS} {wk : Nat} {y : Nat → Nat → Int32} {tk : Nat → UInt32}
theorem pM.ok {w : Value} (k : pM ty es o h am Q) (e : o = (.inl (some w), x)) (g : hR h1 am (nI 0) (g_nu x) (g_nr x) (g_nm x) (g_now x) (g_rf x) wk y tk) (ha : absR y tk x) (f : gfm h h1) : Q (.inl (some w)) h1 := by
  subst e
  exact k h1 (nI 0) w ⟨wk, y, tk, g, ha⟩ f ⟨rfl, rfl⟩
theorem pM.no {E : String} {j : Nat} {v : Value} (k : pM ty es o h am Q) (e : o = (.inr E, x)) (hj : es[j]? = some E) (g : hR h1 am (nI (j + 1)) (g_nu x) (g_nr x) (g_nm x) (g_now x) (g_rf x) wk y tk) (ha : absR y tk x) (f : gfm h h1) (ht : ty v) : Q (.inl (some v)) h1 := by
  subst e
  exact k h1 (nI (j + 1)) v ⟨wk, y, tk, g, ha⟩ f ⟨⟨j, hj, rfl⟩, ht⟩
end PMA
theorem b2n_t : b2i (!true) = nI 0 := rfl
theorem b2n_f : b2i (!false) = nI 1 := rfl
theorem nI10 : (nI 1 = 0) = False := by decide +kernel
theorem nI00 : (nI 0 = 0) = True := by decide +kernel
section ABS
variable {y : Nat → Nat → Int32} {tk : Nat → UInt32} {x : gS}
theorem absR.seen (h : absR y tk x) : ∀ u, u < g_nu x → y 1 u = nI (g_seen x u) := h.1
theorem absR.dl (h : absR y tk x) : ∀ u, u < 6 → y 2 u = nI (g_dr x u).length := h.2.1
theorem absR.dr (h : absR y tk x) : ∀ u, u < 6 → ∀ j, j < (g_dr x u).length → y 3 (20 * u + j) = nI ((g_dr x u).getD j 0) := h.2.2.1
theorem absR.tok (h : absR y tk x) : ∀ u, u < g_nu x → tk u = g_tok x u := h.2.2.2.1
theorem absR.ml (h : absR y tk x) : ∀ r, r < 4 → y 5 r = nI (g_mem x r).length := h.2.2.2.2.1
theorem absR.me (h : absR y tk x) : ∀ r, r < 4 → ∀ j, j < (g_mem x r).length → y 6 (6 * r + j) = nI ((g_mem x r).getD j 0) := h.2.2.2.2.2.1
theorem absR.mk (h : absR y tk x) : ∀ r, r < 4 → ∀ u, u < 6 → y 7 (6 * r + u) = nI (g_mk x r u) := h.2.2.2.2.2.2.1
theorem absR.ms (h : absR y tk x) : ∀ m, m < g_nm x → y 8 m = nI (g_au x m) ∧ y 9 m = nI (g_rm x m) ∧ y 10 m = nI (g_tm x m) ∧ y 11 m = nI (g_tx x m).length ∧ y 14 m = paI (g_pa x m) ∧ y 15 m = nI (mkB (g_th x m)) ∧ ∀ j, j < (g_tx x m).length → y 12 (20 * m + j) = nI ((g_tx x m).getD j 0) := h.2.2.2.2.2.2.2.1
theorem absR.eg (h : absR y tk x) : ∀ m, m < 60 → y 13 m = nI (g_ed x m) ∧ y 16 m = b2i (g_gone x m) := h.2.2.2.2.2.2.2.2.1
theorem absR.ev (h : absR y tk x) : ∀ k, k < 9 → y 17 k = nI ((g_log x).countP (fun v => v.1 == kcode k)) := h.2.2.2.2.2.2.2.2.2
theorem absR.rg (h : absR y tk x) (hv : vX x) : ∀ m, m < g_nm x → y 9 m = nI (g_rm x m) ∧ g_rm x m < 1000 := fun m hm => ⟨(h.ms m hm).2.1, by
  have h1 := (hv.1.2.2.2.1 m hm).2.1
  have h2 := hv.r
  omega⟩
end ABS
theorem kcode_inj : ∀ i, i < 9 → ∀ j, j < 9 → (kcode i == kcode j) = decide (i = j) := by decide +kernel
/-- one more event -/
theorem ev_up {f : Nat → Int32} {log : List gEv} {q : Nat} {v : gEv} (h : ∀ k, k < 9 → f k = nI (log.countP (fun v => v.1 == kcode k))) (hq : q < 9) (hv : v.1 = kcode q) : ∀ k, k < 9 → gup f q (nI (log.countP (fun v => v.1 == kcode q) + 1)) k = nI ((log ++ [v]).countP (fun v => v.1 == kcode k)) := fun k hk => by
  rw [List.countP_append, List.countP_singleton, hv, kcode_inj q hq k hk]
  by_cases hqk : k = q
  · subst hqk
    rw [gup_at, decide_eq_true rfl]
    rfl
  · rw [gup_of hqk, h k hk, decide_eq_false (fun z => hqk z.symm)]
    rfl
theorem ev_le {log : List gEv} {q : Nat} (h : log.length < 512) : log.countP (fun v => v.1 == kcode q) < 512 := Nat.lt_of_le_of_lt List.countP_le_length h
section HRD
variable {h : gH} {am : Nat → Nat} {th : Int32} {nu nr nm now rf wk : Nat} {y : Nat → Nat → Int32} {tk : Nat → UInt32}
theorem hR.rd (hh : hR h am th nu nr nm now rf wk y tk) (k : Nat) (h1 : 1 ≤ k) (h2 : k ≤ 18) (h4 : k ≠ 4) {ty : FieldType} {n : Nat} {f : Nat → Int32} (e1 : yTy k = ty) (e2 : yN k = n) (e : y k = f) : h (am k) = some (true, 2, .inl (ty, n, .inl f)) := by
  rw [hh.2.1 k h1 h2 h4, ← e1, ← e2, ← e]
theorem hR.wr2 (hh : hR h am th nu nr nm now rf wk y tk) (k : Nat) (h1 : 1 ≤ k) (h2 : k ≤ 18) (h4 : k ≠ 4) {ty : FieldType} {n : Nat} (e1 : yTy k = ty) (e2 : yN k = n) (g : Nat → Int32) : hR (gset h (am k) (true, 2, .inl (ty, n, .inl g))) am th nu nr nm now rf wk (gup y k g) tk ∧ gfm h (gset h (am k) (true, 2, .inl (ty, n, .inl g))) := by
  rw [← e1, ← e2]
  exact hh.wr k h1 h2 h4 g
end HRD
theorem gup_nI {f : Nat → Int32} {g : Nat → Nat} {P : Nat → Prop} {i a : Nat} (h : ∀ u, P u → f u = nI (g u)) : ∀ u, P u → gup f i (nI a) u = nI (gup g i a u) := fun u hu => by
  unfold gup
  split
  · rfl
  · exact h u hu
