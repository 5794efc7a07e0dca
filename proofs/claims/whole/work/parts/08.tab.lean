/-! methods as tables -/
theorem lw_in {w : Cond} (i : Nat) (h : lw_tbl[i]? = some w) : w ∈ lw_tbl := List.mem_of_getElem? h
/-- behind an instruction: on, or a stop -/
def gnx (P : Nat → gOp) (S : Nat → Option (List Bool)) (K : gK) (Q : gQ) (n : Nat) : gK := fun pc1 lv1 st1 h1 kc1 ks1 => match S pc1 with
  | some bs => K pc1 (gmask bs lv1) st1 h1 kc1 ks1
  | none => grun P S K Q n pc1 lv1 st1 h1 kc1 ks1
def gtab : List (Nat × gOp) → Nat → gOp
  | [], _ => gi_no
  | q :: l, pc => if pc = q.1 then q.2 else gtab l pc
theorem gtab_ok {M : gM} : ∀ {l : List (Nat × gOp)}, (∀ q ∈ l, gSnd M q.1 q.2) → ∀ pc, gSnd M pc (gtab l pc)
  | [], _, pc => gs_no
  | q :: l, h, pc => by
    unfold gtab
    split
    · rename_i e
      subst e
      exact h q List.mem_cons_self
    · exact gtab_ok (fun r hr => h r (List.mem_cons_of_mem _ hr)) pc
theorem gKJx4a65c : gCls 2 RJx4a65c TJx4a65c 3 tyJx4a65c := ⟨rfl, by decide +kernel, tyJx4a65c_ok, nmJx4a65c⟩
theorem gKX0 : gCls 3 RX0 TX0 5 tyX0 := ⟨rfl, by decide +kernel, tyX0_ok, nmX0⟩
theorem gKX1 : gCls 4 RX1 TX1 12 tyX1 := ⟨rfl, by decide +kernel, tyX1_ok, nmX1⟩
theorem gKX2 : gCls 5 RX2 TX2 7 tyX2 := ⟨rfl, by decide +kernel, tyX2_ok, nmX2⟩
theorem gKX3 : gCls 6 RX3 TX3 3 tyX3 := ⟨rfl, by decide +kernel, tyX3_ok, nmX3⟩
theorem gKX4 : gCls 7 RX4 TX4 2 tyX4 := ⟨rfl, by decide +kernel, tyX4_ok, nmX4⟩
theorem gKX5 : gCls 8 RX5 TX5 4 tyX5 := ⟨rfl, by decide +kernel, tyX5_ok, nmX5⟩
theorem gKX6 : gCls 9 RX6 TX6 7 tyX6 := ⟨rfl, by decide +kernel, tyX6_ok, nmX6⟩
theorem gKX7 : gCls 10 RX7 TX7 25 tyX7 := ⟨rfl, by decide +kernel, tyX7_ok, nmX7⟩
theorem gKX8 : gCls 11 RX8 TX8 2 tyX8 := ⟨rfl, by decide +kernel, tyX8_ok, nmX8⟩
