/-! what the start gives -/
section START
variable {s : State} {b : Nat}
theorem ws_A : ∀ a : Nat, a < s.heap.size → ¬ s.heap.size ≤ a := fun _ h => Nat.not_le.mpr h
theorem ws_k (hts : ∀ w ∈ lw_tbl, w.before #[Value.ref b] s = true) {C : String} {T : u_T} {N n : Nat} (hin : ∀ w ∈ u_ws C T N, w ∈ lw_tbl) (hi : Cond.instantiable C n ∈ lw_tbl) : ∃ p : ClassId × (Nat → Nat), u_Kn s C T N p.1 p.2 := by
  obtain ⟨a, c, z⟩ := u_known hts hin (hts _ hi)
  exact ⟨(a, c), z⟩
theorem ws_K (hts : ∀ w ∈ lw_tbl, w.before #[Value.ref b] s = true) : ∃ D : va_G, va_K D vwCl [] s := by
  have key : ∀ q ∈ vwCl, ∃ p : ClassId × (Nat → Nat), u_Kn s q.1 q.2.1 q.2.2 p.1 p.2 := List.forall_mem_cons.mpr ⟨ws_k (n := 4) hts gKJ0.2.1 (lw_in 643 (by decide +kernel)),
  List.forall_mem_cons.mpr ⟨ws_k (n := 6) hts (by decide +kernel) (lw_in 628 (by decide +kernel)),
  List.forall_mem_cons.mpr ⟨ws_k (n := 3) hts gKJx4a65c.2.1 (lw_in 82 (by decide +kernel)),
  List.forall_mem_cons.mpr ⟨ws_k (n := 5) hts gKX0.2.1 (lw_in 371 (by decide +kernel)),
  List.forall_mem_cons.mpr ⟨ws_k (n := 12) hts gKX1.2.1 (lw_in 688 (by decide +kernel)),
  List.forall_mem_cons.mpr ⟨ws_k (n := 7) hts gKX2.2.1 (lw_in 108 (by decide +kernel)),
  List.forall_mem_cons.mpr ⟨ws_k (n := 3) hts gKX3.2.1 (lw_in 490 (by decide +kernel)),
  List.forall_mem_cons.mpr ⟨ws_k (n := 2) hts gKX4.2.1 (lw_in 270 (by decide +kernel)),
  List.forall_mem_cons.mpr ⟨ws_k (n := 4) hts gKX5.2.1 (lw_in 264 (by decide +kernel)),
  List.forall_mem_cons.mpr ⟨ws_k (n := 7) hts gKX6.2.1 (lw_in 74 (by decide +kernel)),
  List.forall_mem_cons.mpr ⟨ws_k (n := 25) hts gKX7.2.1 (lw_in 1238 (by decide +kernel)),
  List.forall_mem_cons.mpr ⟨ws_k (n := 2) hts gKX8.2.1 (lw_in 515 (by decide +kernel)),
  fun _ h => absurd h List.not_mem_nil⟩⟩⟩⟩⟩⟩⟩⟩⟩⟩⟩⟩
  have h : ∀ c : Nat, ∃ p : ClassId × (Nat → Nat), ∀ q, vwCl[c]? = some q → u_Kn s q.1 q.2.1 q.2.2 p.1 p.2 := by
    intro c
    cases hc : vwCl[c]? with
    | none => exact ⟨(0, fun _ => 0), fun q h => by cases h⟩
    | some q =>
      obtain ⟨p, hp⟩ := key q (List.mem_of_getElem? hc)
      exact ⟨p, fun q2 h => by cases h; exact hp⟩
  exact ⟨(fun c => (Classical.choose (h c)).1, fun c => (Classical.choose (h c)).2), fun c q hq => Classical.choose_spec (h c) q hq, fun k q hk => by simp at hk⟩
theorem ws_s (hts : ∀ w ∈ lw_tbl, w.before #[Value.ref b] s = true) {own tx : String} {k : Nat} (h1 : Cond.stringRef own k tx ∈ lw_tbl) (h2 : (Cond.exactly (.string own k) "java/lang/String").before #[Value.ref b] s = true) : ∃ a : Nat, vk_R own k tx a s := by
  obtain ⟨a, c, cA, kA, q1, -⟩ := Cond.exactly_spec (args := #[Value.ref b]) (first := s) (o := none) (s := s) (idx := []) (t := .string own k) (cls := "java/lang/String") h2
  exact ⟨a, vk_R.of (hts _ h1) q1⟩
theorem ws_S (hts : ∀ w ∈ lw_tbl, w.before #[Value.ref b] s = true) (hg : (Jvm.Cond.and given_1 narrow_1).before #[Value.ref b] s = true) : ∀ q ∈ gStr, ∃ a : Nat, vk_R q.1 q.2.1 q.2.2 a s := by
  unfold gStr
  exact List.forall_mem_cons.mpr ⟨ws_s hts (lw_in 236 (by decide +kernel)) (wg_111 hg),
  List.forall_mem_cons.mpr ⟨ws_s hts (lw_in 419 (by decide +kernel)) (wg_132 hg),
  List.forall_mem_cons.mpr ⟨ws_s hts (lw_in 461 (by decide +kernel)) (wg_157 hg),
  List.forall_mem_cons.mpr ⟨ws_s hts (lw_in 480 (by decide +kernel)) (wg_189 hg),
  List.forall_mem_cons.mpr ⟨ws_s hts (lw_in 488 (by decide +kernel)) (wg_218 hg),
  List.forall_mem_cons.mpr ⟨ws_s hts (lw_in 544 (by decide +kernel)) (wg_239 hg),
  List.forall_mem_cons.mpr ⟨ws_s hts (lw_in 550 (by decide +kernel)) (wg_264 hg),
  List.forall_mem_cons.mpr ⟨ws_s hts (lw_in 571 (by decide +kernel)) (wg_288 hg),
  List.forall_mem_cons.mpr ⟨ws_s hts (lw_in 611 (by decide +kernel)) (wg_328 hg),
  List.forall_mem_cons.mpr ⟨ws_s hts (lw_in 619 (by decide +kernel)) (wg_354 hg),
  List.forall_mem_cons.mpr ⟨ws_s hts (lw_in 622 (by decide +kernel)) (wg_383 hg),
  List.forall_mem_cons.mpr ⟨ws_s hts (lw_in 663 (by decide +kernel)) (wg_414 hg),
  List.forall_mem_cons.mpr ⟨ws_s hts (lw_in 686 (by decide +kernel)) (wg_436 hg),
  List.forall_mem_cons.mpr ⟨ws_s hts (lw_in 781 (by decide +kernel)) (wg_501 hg),
  List.forall_mem_cons.mpr ⟨ws_s hts (lw_in 782 (by decide +kernel)) (wg_529 hg),
  List.forall_mem_cons.mpr ⟨ws_s hts (lw_in 790 (by decide +kernel)) (wg_555 hg),
  List.forall_mem_cons.mpr ⟨ws_s hts (lw_in 792 (by decide +kernel)) (wg_600 hg),
  List.forall_mem_cons.mpr ⟨ws_s hts (lw_in 808 (by decide +kernel)) (wg_647 hg),
  List.forall_mem_cons.mpr ⟨ws_s hts (lw_in 910 (by decide +kernel)) (wg_685 hg),
  List.forall_mem_cons.mpr ⟨ws_s hts (lw_in 928 (by decide +kernel)) (wg_712 hg),
  List.forall_mem_cons.mpr ⟨ws_s hts (lw_in 943 (by decide +kernel)) (wg_739 hg),
  List.forall_mem_cons.mpr ⟨ws_s hts (lw_in 1000 (by decide +kernel)) (wg_779 hg),
  List.forall_mem_cons.mpr ⟨ws_s hts (lw_in 1022 (by decide +kernel)) (wg_808 hg),
  List.forall_mem_cons.mpr ⟨ws_s hts (lw_in 1106 (by decide +kernel)) (wg_850 hg),
  List.forall_mem_cons.mpr ⟨ws_s hts (lw_in 1189 (by decide +kernel)) (wg_863 hg),
  List.forall_mem_cons.mpr ⟨ws_s hts (lw_in 1212 (by decide +kernel)) (wg_888 hg),
  fun _ h => absurd h List.not_mem_nil⟩⟩⟩⟩⟩⟩⟩⟩⟩⟩⟩⟩⟩⟩⟩⟩⟩⟩⟩⟩⟩⟩⟩⟩⟩⟩
theorem ws_N (hg : (Jvm.Cond.and given_1 narrow_1).before #[Value.ref b] s = true) : ∀ q ∈ gNcs, va_Nc q.1 q.2 s := by
  unfold gNcs
  exact List.forall_mem_cons.mpr ⟨va_Nc.of (wg_15 hg),
  List.forall_mem_cons.mpr ⟨va_Nc.of (wg_16 hg),
  List.forall_mem_cons.mpr ⟨va_Nc.of (wg_17 hg),
  List.forall_mem_cons.mpr ⟨va_Nc.of (wg_18 hg),
  List.forall_mem_cons.mpr ⟨va_Nc.of (wg_19 hg),
  List.forall_mem_cons.mpr ⟨va_Nc.of (wg_20 hg),
  List.forall_mem_cons.mpr ⟨va_Nc.of (wg_21 hg),
  List.forall_mem_cons.mpr ⟨va_Nc.of (wg_22 hg),
  List.forall_mem_cons.mpr ⟨va_Nc.of (wg_23 hg),
  List.forall_mem_cons.mpr ⟨va_Nc.of (wg_24 hg),
  List.forall_mem_cons.mpr ⟨va_Nc.of (wg_25 hg),
  List.forall_mem_cons.mpr ⟨va_Nc.of (wg_26 hg),
  List.forall_mem_cons.mpr ⟨va_Nc.of (wg_27 hg),
  List.forall_mem_cons.mpr ⟨va_Nc.of (wg_28 hg),
  List.forall_mem_cons.mpr ⟨va_Nc.of (wg_29 hg),
  List.forall_mem_cons.mpr ⟨va_Nc.of (wg_30 hg),
  List.forall_mem_cons.mpr ⟨va_Nc.of (wg_31 hg),
  List.forall_mem_cons.mpr ⟨va_Nc.of (wg_32 hg),
  List.forall_mem_cons.mpr ⟨va_Nc.of (wg_33 hg),
  List.forall_mem_cons.mpr ⟨va_Nc.of (wg_34 hg),
  List.forall_mem_cons.mpr ⟨va_Nc.of (wg_35 hg),
  List.forall_mem_cons.mpr ⟨va_Nc.of (wg_36 hg),
  List.forall_mem_cons.mpr ⟨va_Nc.of (wg_37 hg),
  List.forall_mem_cons.mpr ⟨va_Nc.of (wg_38 hg),
  List.forall_mem_cons.mpr ⟨va_Nc.of (wg_39 hg),
  List.forall_mem_cons.mpr ⟨va_Nc.of (wg_40 hg),
  List.forall_mem_cons.mpr ⟨va_Nc.of (wg_41 hg),
  List.forall_mem_cons.mpr ⟨va_Nc.of (wg_42 hg),
  List.forall_mem_cons.mpr ⟨va_Nc.of (wg_43 hg),
  List.forall_mem_cons.mpr ⟨va_Nc.of (wg_44 hg),
  List.forall_mem_cons.mpr ⟨va_Nc.of (wg_45 hg),
  List.forall_mem_cons.mpr ⟨va_Nc.of (wg_46 hg),
  List.forall_mem_cons.mpr ⟨va_Nc.of (wg_47 hg),
  List.forall_mem_cons.mpr ⟨va_Nc.of (wg_48 hg),
  List.forall_mem_cons.mpr ⟨va_Nc.of (wg_49 hg),
  List.forall_mem_cons.mpr ⟨va_Nc.of (wg_50 hg),
  List.forall_mem_cons.mpr ⟨va_Nc.of (wg_51 hg),
  List.forall_mem_cons.mpr ⟨va_Nc.of (wg_52 hg),
  List.forall_mem_cons.mpr ⟨va_Nc.of (wg_53 hg),
  List.forall_mem_cons.mpr ⟨va_Nc.of (wg_54 hg),
  List.forall_mem_cons.mpr ⟨va_Nc.of (wg_55 hg),
  List.forall_mem_cons.mpr ⟨va_Nc.of (wg_56 hg),
  List.forall_mem_cons.mpr ⟨va_Nc.of (wg_57 hg),
  List.forall_mem_cons.mpr ⟨va_Nc.of (wg_58 hg),
  List.forall_mem_cons.mpr ⟨va_Nc.of (wg_59 hg),
  List.forall_mem_cons.mpr ⟨va_Nc.of (wg_60 hg),
  List.forall_mem_cons.mpr ⟨va_Nc.of (wg_61 hg),
  List.forall_mem_cons.mpr ⟨va_Nc.of (wg_62 hg),
  List.forall_mem_cons.mpr ⟨va_Nc.of (wg_63 hg),
  List.forall_mem_cons.mpr ⟨va_Nc.of (wg_64 hg),
  List.forall_mem_cons.mpr ⟨va_Nc.of (wg_65 hg),
  List.forall_mem_cons.mpr ⟨va_Nc.of (wg_66 hg),
  List.forall_mem_cons.mpr ⟨va_Nc.of (wg_67 hg),
  List.forall_mem_cons.mpr ⟨va_Nc.of (wg_68 hg),
  List.forall_mem_cons.mpr ⟨va_Nc.of (wg_69 hg),
  List.forall_mem_cons.mpr ⟨va_Nc.of (wg_70 hg),
  List.forall_mem_cons.mpr ⟨va_Nc.of (wg_71 hg),
  List.forall_mem_cons.mpr ⟨va_Nc.of (wg_72 hg),
  List.forall_mem_cons.mpr ⟨va_Nc.of (wg_73 hg),
  List.forall_mem_cons.mpr ⟨va_Nc.of (wg_74 hg),
  List.forall_mem_cons.mpr ⟨va_Nc.of (wg_75 hg),
  List.forall_mem_cons.mpr ⟨va_Nc.of (wg_76 hg),
  List.forall_mem_cons.mpr ⟨va_Nc.of (wg_77 hg),
  List.forall_mem_cons.mpr ⟨va_Nc.of (wg_78 hg),
  List.forall_mem_cons.mpr ⟨va_Nc.of (wg_79 hg),
  List.forall_mem_cons.mpr ⟨va_Nc.of (wg_80 hg),
  List.forall_mem_cons.mpr ⟨va_Nc.of (wg_81 hg),
  List.forall_mem_cons.mpr ⟨va_Nc.of (wg_82 hg),
  List.forall_mem_cons.mpr ⟨va_Nc.of (wg_83 hg),
  List.forall_mem_cons.mpr ⟨va_Nc.of (wg_84 hg),
  List.forall_mem_cons.mpr ⟨va_Nc.of (wg_85 hg),
  List.forall_mem_cons.mpr ⟨va_Nc.of (wg_86 hg),
  List.forall_mem_cons.mpr ⟨va_Nc.of (wg_87 hg),
  List.forall_mem_cons.mpr ⟨va_Nc.of (wg_88 hg),
  List.forall_mem_cons.mpr ⟨va_Nc.of (wg_89 hg),
  List.forall_mem_cons.mpr ⟨va_Nc.of (wg_90 hg),
  List.forall_mem_cons.mpr ⟨va_Nc.of (wg_91 hg),
  List.forall_mem_cons.mpr ⟨va_Nc.of (wg_92 hg),
  List.forall_mem_cons.mpr ⟨va_Nc.of (wg_93 hg),
  List.forall_mem_cons.mpr ⟨va_Nc.of (wg_94 hg),
  List.forall_mem_cons.mpr ⟨va_Nc.of (wg_95 hg),
  List.forall_mem_cons.mpr ⟨va_Nc.of (wg_96 hg),
  List.forall_mem_cons.mpr ⟨va_Nc.of (wg_97 hg),
  List.forall_mem_cons.mpr ⟨va_Nc.of (wg_98 hg),
  List.forall_mem_cons.mpr ⟨va_Nc.of (wg_99 hg),
  List.forall_mem_cons.mpr ⟨va_Nc.of (wg_100 hg),
  List.forall_mem_cons.mpr ⟨va_Nc.of (wg_101 hg),
  List.forall_mem_cons.mpr ⟨va_Nc.of (wg_102 hg),
  List.forall_mem_cons.mpr ⟨va_Nc.of (wg_103 hg),
  List.forall_mem_cons.mpr ⟨va_Nc.of (wg_104 hg),
  List.forall_mem_cons.mpr ⟨va_Nc.of (wg_105 hg),
  List.forall_mem_cons.mpr ⟨va_Nc.of (wg_106 hg),
  List.forall_mem_cons.mpr ⟨va_Nc.of (wg_107 hg),
  List.forall_mem_cons.mpr ⟨va_Nc.of (wg_108 hg),
  List.forall_mem_cons.mpr ⟨va_Nc.of (wg_109 hg),
  fun _ h => absurd h List.not_mem_nil⟩⟩⟩⟩⟩⟩⟩⟩⟩⟩⟩⟩⟩⟩⟩⟩⟩⟩⟩⟩⟩⟩⟩⟩⟩⟩⟩⟩⟩⟩⟩⟩⟩⟩⟩⟩⟩⟩⟩⟩⟩⟩⟩⟩⟩⟩⟩⟩⟩⟩⟩⟩⟩⟩⟩⟩⟩⟩⟩⟩⟩⟩⟩⟩⟩⟩⟩⟩⟩⟩⟩⟩⟩⟩⟩⟩⟩⟩⟩⟩⟩⟩⟩⟩⟩⟩⟩⟩⟩⟩⟩⟩⟩⟩⟩
theorem ws_ed (hts : ∀ w ∈ lw_tbl, w.before #[Value.ref b] s = true) (hg : (Jvm.Cond.and given_1 narrow_1).before #[Value.ref b] s = true) : ∃ ed : Nat, gEd s ed := by
  obtain ⟨t, ht, hT⟩ := va_Tof (tm := .static "java/util/ArrayList" "DEFAULTCAPACITY_EMPTY_ELEMENTDATA" "[Ljava/lang/Object;") (ty := tObj) (N := 0) (f := fun _ => .null) (A := fun q => s.heap.size ≤ q) (by decide) (wg_5 hg) (va_eqt (wg_7 hg)) (fun j hj => absurd hj (Nat.not_lt_zero j)) ws_A
  exact ⟨t, va_Zref (hts _ (lw_in 94 (by decide +kernel))) (hts _ (lw_in 41 (by decide +kernel))) ht ws_A, hT⟩
theorem ws_Z (hts : ∀ w ∈ lw_tbl, w.before #[Value.ref b] s = true) (hg : (Jvm.Cond.and given_1 narrow_1).before #[Value.ref b] s = true) {l : Launch} (hl : l.flags = flags0) {D : va_G} {ed : Nat} (hK : va_K D vwCl [] s) (hE : gEd s ed) : gZ l s b D ed := by
  refine ⟨?_, hts, hK, hE, vx_Zqof (hts _ (lw_in 218 (by decide +kernel))) (hts _ (lw_in 44 (by decide +kernel))) (wg_8 hg) ws_A, vx_Zqof (hts _ (lw_in 220 (by decide +kernel))) (hts _ (lw_in 44 (by decide +kernel))) (wg_9 hg) ws_A, ws_S hts hg, ws_N hg, va_Zof (hts _ (lw_in 1120 (by decide +kernel))) (hts _ (lw_in 64 (by decide +kernel))) (va_eqt (wg_10 hg)) ws_A, va_Mi.of (wg_110 hg)⟩
  unfold Launch.stackTraces
  rw [hl]
  decide +kernel
/-- the text of the kinds of events -/
theorem ws_T (hts : ∀ w ∈ lw_tbl, w.before #[Value.ref b] s = true) (hg : (Jvm.Cond.and given_1 narrow_1).before #[Value.ref b] s = true) : ∃ e0 b0 : Nat, vk_R RX6 278 "rojlsexmp" e0 s ∧ va_O RJ0 e0 (fun q => s.heap.size ≤ q) s s.heap ∧ va_OF "java/lang/String" "value" "[B" (.ref b0) e0 (fun q => s.heap.size ≤ q) s s.heap ∧ va_OF "java/lang/String" "coder" "B" (.int (nI 0)) e0 (fun q => s.heap.size ≤ q) s s.heap ∧ va_T .byte b0 9 (fun j => .int (nI (kcode j))) (fun q => s.heap.size ≤ q) s s.heap := by
  have hx := (wg_850 hg)
  obtain ⟨a, c, cA, kA, q1, -⟩ := Cond.exactly_spec (args := #[Value.ref b]) (first := s) (o := none) (s := s) (idx := []) (t := .string "Inglenook" 278) (cls := "java/lang/String") hx
  have hel : ∀ j : Nat, j < 9 → (Term.elem (.field (.string "Inglenook" 278) "java/lang/String" "value" "[B") (.int (Int32.ofNat j))).eval #[Value.ref b] s none [] s = some (.int (nI (kcode j))) := fun j hj => match j, hj with
    | 0, _ => va_eqt (wg_854 hg)
    | 1, _ => va_eqt (wg_855 hg)
    | 2, _ => va_eqt (wg_856 hg)
    | 3, _ => va_eqt (wg_857 hg)
    | 4, _ => va_eqt (wg_858 hg)
    | 5, _ => va_eqt (wg_859 hg)
    | 6, _ => va_eqt (wg_860 hg)
    | 7, _ => va_eqt (wg_861 hg)
    | 8, _ => va_eqt (wg_862 hg)
    | n + 9, h => absurd h (by omega)
  obtain ⟨t, ht, hT⟩ := va_Tof (tm := .field (.string "Inglenook" 278) "java/lang/String" "value" "[B") (ty := .byte) (N := 9) (f := fun j => .int (nI (kcode j))) (A := fun q => s.heap.size ≤ q) (by decide) (wg_852 hg) (va_eqt (wg_853 hg)) hel ws_A
  exact ⟨a, t, vk_R.of (hts _ (lw_in 1106 (by decide +kernel))) q1, va_Oof hx q1 ws_A, vk_OFof q1 ht ws_A, vk_OFof q1 (va_eqt (wg_851 hg)) ws_A, hT⟩
theorem ws_ne {U : State} {H : Heap} {A : Nat → Prop} {t1 t2 : FieldType} {a1 a2 N1 N2 : Nat} {f1 f2 : Nat → Value} (h1 : va_T t1 a1 N1 f1 A U H) (h2 : va_T t2 a2 N2 f2 A U H) (n : t1 ≠ t2) : a1 ≠ a2 := by
  intro e
  subst e
  obtain ⟨c1, g1, ⟨-, k1, i1, p1, j1⟩, -⟩ := h1
  obtain ⟨c2, g2, ⟨-, k2, i2, p2, j2⟩, -⟩ := h2
  cases g1.symm.trans g2
  cases i1.symm.trans i2
  cases j1.symm.trans j2
  exact n rfl
theorem ws_nO {U : State} {H : Heap} {A : Nat → Prop} {t1 : FieldType} {C : String} {cC : ClassId} {a1 a2 N1 : Nat} {f1 : Nat → Value} (h1 : va_T t1 a1 N1 f1 A U H) (h2 : va_O C a2 A U H) (h3 : ClassAt U C cC) : a1 ≠ a2 := by
  intro e
  subst e
  obtain ⟨c1, g1, ⟨-, k1, i1, p1, j1⟩, -⟩ := h1
  obtain ⟨c2, g2, -, g4, -⟩ := h2
  obtain ⟨m1, kC, m2, m3⟩ := h3
  cases g1.symm.trans g2
  cases g4.symm.trans m1
  cases i1.symm.trans m2
  cases j1.symm.trans m3
end START
/-- the world at the start -/
def ws_h (b L : Nat) (xs : Nat → Int32) (ed e0 b0 : Nat) : gH := fun q => if q = b then some (false, 79, .inl (.int, L, .inl xs)) else if q = ed then some (false, 77, .inl (tObj, 0, .inl (fun _ => 0))) else if q = e0 then some (false, 78, .inr (.inl (0, [.ref b0, .int (nI 0)]))) else if q = b0 then some (false, 80, .inl (.byte, 9, .inl (fun j => nI (kcode j)))) else none
theorem ws_room {s : State} {pl : Platform} (h : s.hasRoom pl room_1 = true) : s.hasRoom pl (gRm 100 603072 7219306) = true := by
  unfold State.hasRoom at h ⊢
  have e1 : room_1.locals = 94400 := rfl
  have e2 : room_1.frames = 2048 := rfl
  have e3 : room_1.cells = 603072 := rfl
  have e4 : room_1.slots = 7219306 := rfl
  simp only [Bool.and_eq_true, decide_eq_true_eq, e1, e2, e3, e4] at h ⊢
  obtain ⟨⟨⟨⟨a1, a2, a3, a4, a5, a6⟩, a7⟩, a8⟩, a9⟩ := h
  refine ⟨⟨⟨⟨?_, ?_, ?_, ?_, ?_, ?_⟩, ?_⟩, ?_⟩, ?_⟩ <;> first | assumption | omega
