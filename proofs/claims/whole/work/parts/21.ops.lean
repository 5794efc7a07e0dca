/-! what each call answers and makes of the state -/
abbrev vI (n : Nat) : gO := .inl (some (.int (nI n)))
def wU (x : gS) (u : Int32) (f : Nat → gO × gS) : gO × gS := match gix (g_nu x) u with
  | none => (.inr eNSE, x)
  | some i => f i
def wR (x : gS) (r : Int32) (f : Nat → gO × gS) : gO × gS := match gix (g_nr x) r with
  | none => (.inr eNSE, x)
  | some j => f j
def wM (x : gS) (m : Int32) (f : Nat → gO × gS) : gO × gS := match gix (g_nm x) m with
  | none => (.inr eNSE, x)
  | some j => f j
def wI (x : gS) (E : String) (n : Nat) (k : Int32) (f : Nat → gO × gS) : gO × gS := match gix n k with
  | none => (.inr E, x)
  | some j => f j
theorem wU_none {x : gS} {u : Int32} {f : Nat → gO × gS} (h : gix (g_nu x) u = none) : wU x u f = (.inr eNSE, x) := by unfold wU; rw [h]
theorem wU_some {x : gS} {u : Int32} {f : Nat → gO × gS} {i : Nat} (h : gix (g_nu x) u = some i) : wU x u f = f i := by unfold wU; rw [h]
theorem wR_none {x : gS} {u : Int32} {f : Nat → gO × gS} (h : gix (g_nr x) u = none) : wR x u f = (.inr eNSE, x) := by unfold wR; rw [h]
theorem wR_some {x : gS} {u : Int32} {f : Nat → gO × gS} {i : Nat} (h : gix (g_nr x) u = some i) : wR x u f = f i := by unfold wR; rw [h]
theorem wM_none {x : gS} {u : Int32} {f : Nat → gO × gS} (h : gix (g_nm x) u = none) : wM x u f = (.inr eNSE, x) := by unfold wM; rw [h]
theorem wM_some {x : gS} {u : Int32} {f : Nat → gO × gS} {i : Nat} (h : gix (g_nm x) u = some i) : wM x u f = f i := by unfold wM; rw [h]
theorem wI_none {x : gS} {E : String} {n : Nat} {u : Int32} {f : Nat → gO × gS} (h : gix n u = none) : wI x E n u f = (.inr E, x) := by unfold wI; rw [h]
theorem wI_some {x : gS} {E : String} {n : Nat} {u : Int32} {f : Nat → gO × gS} {i : Nat} (h : gix n u = some i) : wI x E n u f = f i := by unfold wI; rw [h]
def clsT (t g : UInt32) : UInt32 := if Op.cmpValue (FP.fcmp (FP.fadd t g) 1082130432) .g < 0 then FP.fadd t g else 1082130432
def gainV (s r : Nat) : UInt32 := FP.fdiv (FP.fmul (FP.i2f (nI s)) (FP.i2f (nI r))) 1115684864
def o_register (x : gS) : gO × gS := if 6 ≤ g_nu x then (.inr eISE, x) else (vI (g_nu x), m_note (s_nu (g_nu x + 1) (s_tok (gup (g_tok x) (g_nu x) 1082130432) (s_seen (gup (g_seen x) (g_nu x) (g_now x)) x))) (114, nI (g_nu x), -1, -1, 0))
def o_beat (x : gS) (u : Int32) : gO × gS := wU x u fun i => (vI (g_now x), m_see x i)
def o_pass (x : gS) (s : Int32) : gO × gS := if s < nI 1 ∨ nI 600 < s then (.inr eIAE, x) else (vI (g_now x + s.toNatClampNeg), m_note (s_now (g_now x + s.toNatClampNeg) (s_tok (fun u => if u < g_nu x then clsT (g_tok x u) (gainV s.toNatClampNeg (g_rf x)) else g_tok x u) x)) (112, -1, -1, -1, 0))
def o_setRefill (x : gS) (r : Int32) : gO × gS := if r < 0 ∨ nI 64 < r then (.inr eIAE, x) else (vI (g_rf x), s_rf r.toNatClampNeg x)
def m_join (x : gS) (i j : Nat) : gS := s_mk (gup (g_mk x) j (gup (g_mk x j) i (g_rms x j).length)) (s_mem (gup (g_mem x) j (g_mem x j ++ [i])) x)
def o_open (x : gS) (u : Int32) : gO × gS := wU x u fun i => if 4 ≤ g_nr x then (.inr eISE, x) else (vI (g_nr x), m_see (m_note (s_nr (g_nr x + 1) (m_join x i (g_nr x))) (111, nI i, nI (g_nr x), -1, 0)) i)
def o_join (x : gS) (u r : Int32) : gO × gS := wU x u fun i => wR x r fun j => if i ∈ g_mem x j then (.inr eISE, x) else (vI ((g_mem x j).length + 1), m_see (m_note (m_join x i j) (106, nI i, nI j, -1, 0)) i)
def o_leave (x : gS) (u r : Int32) : gO × gS := wU x u fun i => wR x r fun j => if i ∈ g_mem x j then (vI ((g_mem x j).length - 1), m_see (m_note (s_mem (gup (g_mem x) j ((g_mem x j).erase i)) x) (108, nI i, nI j, -1, 0)) i) else (.inr eUOE, x)
def m_dr (x : gS) (i : Nat) (l : List Nat) : gS := s_dr (gup (g_dr x) i l) x
def wC (x : gS) (c : Int32) (f : Nat → gO × gS) : gO × gS := match gcd c with
  | none => (.inr eIAE, x)
  | some d => f d
theorem wC_none {x : gS} {c : Int32} {f : Nat → gO × gS} (h : gcd c = none) : wC x c f = (.inr eIAE, x) := by unfold wC; rw [h]
theorem wC_some {x : gS} {c : Int32} {f : Nat → gO × gS} {d : Nat} (h : gcd c = some d) : wC x c f = f d := by unfold wC; rw [h]
def o_insert (x : gS) (u k c : Int32) : gO × gS := wU x u fun i => wI x eIOB ((g_dr x i).length + 1) k fun j => wC x c fun d => if 20 ≤ (g_dr x i).length then (.inr eISE, x) else (vI ((g_dr x i).length + 1), m_see (m_dr x i (insL (g_dr x i) j d)) i)
def o_type (x : gS) (u c : Int32) : gO × gS := wU x u fun i => wC x c fun d => if 20 ≤ (g_dr x i).length then (.inr eISE, x) else (vI ((g_dr x i).length + 1), m_see (m_dr x i (insL (g_dr x i) (g_dr x i).length d)) i)
def o_erase (x : gS) (u : Int32) : gO × gS := wU x u fun i => if (g_dr x i).length = 0 then (.inr eISE, x) else (vI ((g_dr x i).getD ((g_dr x i).length - 1) 0), m_see (m_dr x i ((g_dr x i).take ((g_dr x i).length - 1))) i)
def o_reverse (x : gS) (u : Int32) : gO × gS := wU x u fun i => (vI (g_dr x i).length, m_see (m_dr x i (g_dr x i).reverse) i)
/-- a message comes in -/
def m_post (x : gS) (i j : Nat) (p : Option Nat) : gS :=
  s_ts (tsA (g_pa x) (g_nm x) p (gup (g_ts x) (g_nm x) 1)) <|
  s_rms (gup (g_rms x) j (g_rms x j ++ [g_nm x])) <|
  s_nm (g_nm x + 1) <|
  s_au (gup (g_au x) (g_nm x) i) <|
  s_rm (gup (g_rm x) (g_nm x) j) <|
  s_rk (gup (g_rk x) (g_nm x) (g_rms x j).length) <|
  s_pa (gup (g_pa x) (g_nm x) p) <|
  s_tm (gup (g_tm x) (g_nm x) (g_now x)) <|
  s_dp (gup (g_dp x) (g_nm x) (match p with
    | none => 0
    | some q => g_dp x q + 1)) <|
  s_tx (gup (g_tx x) (g_nm x) (g_dr x i)) <|
  s_mm (gup (g_mm x) (g_nm x) (mmX (g_dr x i) (g_mem x j) i)) <|
  s_ed (gup (g_ed x) (g_nm x) 0) <|
  s_gone (gup (g_gone x) (g_nm x) false) <|
  s_th (gup (g_th x) (g_nm x) (fun v => decide (v ∈ g_mem x j))) <|
  s_dr (gup (g_dr x) i []) <|
  s_tok (gup (g_tok x) i (FP.fsub (g_tok x i) FP.fconst1)) x
def o_post (x : gS) (i j : Nat) (p : Option Nat) : gO × gS := if (g_dr x i).length = 0 ∨ Op.cmpValue (FP.fcmp (g_tok x i) FP.fconst1) .g < 0 ∨ 60 ≤ g_nm x then (.inr eISE, x) else (vI (g_nm x), m_see (m_note (m_post x i j p) (115, nI i, nI j, nI (g_rms x j).length, lmk (g_dr x i) (g_dr x i).length)) i)
def o_say (x : gS) (u r : Int32) : gO × gS := wU x u fun i => wR x r fun j => if i ∈ g_mem x j then o_post x i j none else (.inr eUOE, x)
def o_reply (x : gS) (u m : Int32) : gO × gS := wU x u fun i => wM x m fun k => if i ∈ g_mem x (g_rm x k) ∧ g_gone x k = false then o_post x i (g_rm x k) (some k) else (.inr eUOE, x)
def m_edit (x : gS) (i k : Nat) : gS := s_ed (gup (g_ed x) k (g_ed x k + 1)) <| s_mm (gup (g_mm x) k (mmX (g_dr x i) (g_mem x (g_rm x k)) (g_au x k))) <| s_th (gup (g_th x) k (fun v => decide (v ∈ g_mem x (g_rm x k)))) <| s_tx (gup (g_tx x) k (g_dr x i)) <| s_dr (gup (g_dr x) i []) <| s_tok (gup (g_tok x) i (FP.fsub (g_tok x i) 1056964608)) x
def o_edit (x : gS) (u m : Int32) : gO × gS := wU x u fun i => wM x m fun k => if g_au x k ≠ i ∨ g_gone x k = true ∨ 60 < g_now x - g_tm x k then (.inr eUOE, x) else if (g_dr x i).length = 0 ∨ Op.cmpValue (FP.fcmp (g_tok x i) 1056964608) .g < 0 then (.inr eISE, x) else (vI (g_ed x k + 1), m_see (m_note (m_edit x i k) (101, nI i, nI (g_rm x k), nI (g_rk x k), lmk (g_dr x i) (g_dr x i).length)) i)
def m_gone (x : gS) (k : Nat) : gS := s_gone (gup (g_gone x) k true) <| s_mm (gup (g_mm x) k 0) <| s_tx (gup (g_tx x) k []) x
def stnd (x : gS) (j : Nat) : Nat := (g_rms x j).countP (fun m => !g_gone x m)
def o_remove (x : gS) (u m : Int32) : gO × gS := wU x u fun i => wM x m fun k => if (g_au x k ≠ i ∧ (g_mem x (g_rm x k))[0]? ≠ some i) ∨ g_gone x k = true then (.inr eUOE, x) else (vI (stnd (m_gone x k) (g_rm x k)), m_see (m_note (m_gone x k) (120, nI i, nI (g_rm x k), nI (g_rk x k), 0)) i)
def unr (x : gS) (j i : Nat) (b : Bool) : Nat := ((g_rms x j).drop (g_mk x j i)).countP (unP x i b)
def o_read (x : gS) (u r : Int32) : gO × gS := wU x u fun i => wR x r fun j => if i ∈ g_mem x j then (vI (unr x j i false), m_read x j i (g_rms x j).length) else (.inr eUOE, x)
def o_readTo (x : gS) (u m : Int32) : gO × gS := wU x u fun i => wM x m fun k => if i ∈ g_mem x (g_rm x k) then (vI (unr (m_mark x (g_rm x k) i (g_rk x k + 1)) (g_rm x k) i false), m_read x (g_rm x k) i (g_rk x k + 1)) else (.inr eUOE, x)
def o_users (x : gS) : gO × gS := (vI (g_nu x), x)
def o_rooms (x : gS) : gO × gS := (vI (g_nr x), x)
def o_messages (x : gS) : gO × gS := (vI (g_nm x), x)
def o_time (x : gS) : gO × gS := (vI (g_now x), x)
def o_presence (x : gS) (u : Int32) : gO × gS := wU x u fun i => (vI (prs x i), x)
def o_tokens (x : gS) (u : Int32) : gO × gS := wU x u fun i => (.inl (some (.float (g_tok x i))), x)
def o_tokenBits (x : gS) (u : Int32) : gO × gS := wU x u fun i => (.inl (some (.int (g_tok x i).toInt32)), x)
def o_draftLength (x : gS) (u : Int32) : gO × gS := wU x u fun i => (vI (g_dr x i).length, x)
def o_draftAt (x : gS) (u k : Int32) : gO × gS := wU x u fun i => wI x eIOB (g_dr x i).length k fun j => (vI ((g_dr x i).getD j 0), x)
def o_members (x : gS) (r : Int32) : gO × gS := wR x r fun j => (vI (g_mem x j).length, x)
def o_memberAt (x : gS) (r k : Int32) : gO × gS := wR x r fun j => wI x eIOB (g_mem x j).length k fun i => (vI ((g_mem x j).getD i 0), x)
def o_present (x : gS) (r : Int32) : gO × gS := wR x r fun j => (vI ((g_mem x j).countP (fun u => prs x u == 97)), x)
def o_owner (x : gS) (r : Int32) : gO × gS := wR x r fun j => if (g_mem x j).length = 0 then (.inr eISE, x) else (vI ((g_mem x j).getD 0 0), x)
def o_countOf (x : gS) (r : Int32) : gO × gS := wR x r fun j => (vI (g_rms x j).length, x)
def o_messageAt (x : gS) (r k : Int32) : gO × gS := wR x r fun j => wI x eIOB (g_rms x j).length k fun i => (vI ((g_rms x j).getD i 0), x)
def o_rankOf (x : gS) (m : Int32) : gO × gS := wM x m fun k => (vI (g_rk x k), x)
def o_author (x : gS) (m : Int32) : gO × gS := wM x m fun k => (vI (g_au x k), x)
def o_roomOf (x : gS) (m : Int32) : gO × gS := wM x m fun k => (vI (g_rm x k), x)
def o_length (x : gS) (m : Int32) : gO × gS := wM x m fun k => (vI (g_tx x k).length, x)
def o_charAt (x : gS) (m k : Int32) : gO × gS := wM x m fun i => wI x eIOB (g_tx x i).length k fun j => (vI ((g_tx x i).getD j 0), x)
def o_edits (x : gS) (m : Int32) : gO × gS := wM x m fun k => (vI (g_ed x k), x)
def o_isRemoved (x : gS) (m : Int32) : gO × gS := wM x m fun k => (.inl (some (.int (b2i (g_gone x k)))), x)
def o_parent (x : gS) (m : Int32) : gO × gS := wM x m fun k => match g_pa x k with
  | none => (.inr eISE, x)
  | some p => (vI p, x)
def o_depth (x : gS) (m : Int32) : gO × gS := wM x m fun k => (vI (g_dp x k), x)
def o_threadSize (x : gS) (m : Int32) : gO × gS := wM x m fun k => (vI (g_ts x k), x)
def o_threadAt (x : gS) (m n : Int32) : gO × gS := wM x m fun k => wI x eIOB (g_ts x k) n fun i => (vI (fitN x (g_nm x - (k + 1)) (k + 1) k i), x)
def o_mentions (x : gS) (m u : Int32) : gO × gS := wM x m fun k => wU x u fun i => (.inl (some (.int (b2i ((g_mm x k).testBit i)))), x)
def o_unread (x : gS) (u r : Int32) (b : Bool) : gO × gS := wU x u fun i => wR x r fun j => if i ∈ g_mem x j then (vI (unr x j i b), x) else (.inr eUOE, x)
def o_unreadLog (x : gS) (u r : Int32) (b : Bool) : gO × gS := wU x u fun i => wR x r fun j => if i ∈ g_mem x j then (vI (unL x i r b), x) else (.inr eUOE, x)
def o_events (x : gS) : gO × gS := (vI (g_log x).length, x)
def isK (c : Int32) : Bool := (List.range 9).any (fun j => c == nI (kcode j))
def o_eventsOf (x : gS) (c : Int32) : gO × gS := if isK c = true then (vI ((g_log x).countP (fun v => nI v.1 == c)), x) else (.inr eIAE, x)
def othr (x : gS) (k : Nat) : Nat := (g_mem x (g_rm x k)).countP (fun u => u != g_au x k)
def rdrs (x : gS) (k : Nat) : Nat := (g_mem x (g_rm x k)).countP (fun u => u != g_au x k && decide (g_rk x k < g_mk x (g_rm x k) u))
def o_seenShare (x : gS) (m : Int32) : gO × gS := wM x m fun k => if othr x k = 0 then (.inr eAE, x) else (.inl (some (.float (FP.fdiv (FP.i2f (nI (rdrs x k))) (FP.i2f (nI (othr x k)))))), x)
def o_activity (x : gS) (u : Int32) : gO × gS := wU x u fun i => (.inl (some (.double (actF x i (g_nm x)))), x)
def o_activityBits (x : gS) (u : Int32) : gO × gS := wU x u fun i => (.inl (some (.long (actF x i (g_nm x)).toInt64)), x)
/-- a call of the class, its world behind it -/
def pX (o : gO × gS) (h : gH) (ad : Nat → Nat → Nat) (Q : gQ) : Prop := ∀ h1 ad1, holdsX h1 o.2 ad1 → gfr h h1 → ad1 0 0 = ad 0 0 → Q o.1 h1
theorem pX.same {o : gO × gS} {h : gH} {ad : Nat → Nat → Nat} {Q : gQ} {a : gO} {x : gS} (k : pX o h ad Q) (e : o = (a, x)) (hh : holdsX h x ad) : Q a h := by
  have z := k h ad (by rw [e]; exact hh) gfr.rf rfl
  rw [e] at z
  exact z
theorem pX.to {o : gO × gS} {h h1 : gH} {ad ad1 : Nat → Nat → Nat} {Q : gQ} {a : gO} {x : gS} (k : pX o h ad Q) (e : o = (a, x)) (hh : holdsX h1 x ad1) (hf : gfr h h1) (h0 : ad1 0 0 = ad 0 0) : Q a h1 := by
  have z := k h1 ad1 (by rw [e]; exact hh) hf h0
  rw [e] at z
  exact z
