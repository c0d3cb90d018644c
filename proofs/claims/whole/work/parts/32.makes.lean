/-! BrickedUpAsBlind.House.<init>()V -/
def fX0_init (ρ : Rho) (z : Nat) (v0 : Nat) : Option (Rho × Nat) :=
    (some (rset ρ z (iC 8 (fun _ => 0)))).bind fun x1 =>
    (ptV x1 0 v0 0 (.ref z)).bind fun x2 =>
    (some (rset x2 (z + 1) (iC 8 (fun _ => 0)))).bind fun x3 =>
    (ptV x3 0 v0 1 (.ref (z + 1))).bind fun x4 =>
    (some (rset x4 ((z + 1) + 1) (iC 8 (fun _ => 0)))).bind fun x5 =>
    (ptV x5 0 v0 2 (.ref ((z + 1) + 1))).bind fun x6 =>
    (some (rset x6 (((z + 1) + 1) + 1) (iC 8 (fun _ => 0)))).bind fun x7 =>
    (ptV x7 0 v0 3 (.ref (((z + 1) + 1) + 1))).bind fun x8 =>
    (some (rset x8 ((((z + 1) + 1) + 1) + 1) (iC 4 (fun _ => 0)))).bind fun x9 =>
    (ptV x9 0 v0 4 (.ref ((((z + 1) + 1) + 1) + 1))).bind fun x10 =>
    (ptV x10 0 v0 5 (.int 0)).bind fun x11 =>
    (ptV x11 0 v0 6 (.int 0)).bind fun x12 =>
    (ptV x12 0 v0 7 (.int 12)).bind fun x13 =>
    (ptV x13 0 v0 8 (.int 0)).bind fun x14 =>
    (ptV x14 0 v0 9 (.int 0)).bind fun x15 =>
    (ptV x15 0 v0 10 (.int 1)).bind fun x16 =>
    some (x16, (((((z + 1) + 1) + 1) + 1) + 1))
abbrev rX0_init : Room := { frames := 1, cells := 5, slots := 36, locals := 64 }
theorem hdX0_init : hdP yX0_init 0 := by unfold hdP; decide +kernel
set_option maxHeartbeats 4000000 in
set_option maxRecDepth 100000 in
theorem kX0_init (l : Launch) (G : GD) (ρ : Rho) (z : Nat) (v0 : Nat) (ρ1 : Rho) (z1 : Nat) (hf : fX0_init ρ z v0 = some (ρ1, z1)) : AM l G yX0_init (Cond.code yX0_init cX0_init 1 none :: LW) rX0_init ρ z [.ref v0] (none) ρ1 z1 5 36 := by
  obtain ⟨r, hr⟩ : ∃ r, r = (ρ1, z1) := ⟨_, rfl⟩
  rw [← hr] at hf
  refine AM.ofV (own := RX0) (r := r) hr (by decide) rfl (Nat.le_of_ble_eq_true rfl) ?_
  intro p e s m args below meth c H locs Q hx hb hml hown hts hin0 hK hO hR hS hret ls hl
  obtain ⟨ρ0, hρ0⟩ : ∃ y, y = ρ := ⟨_, rfl⟩
  rw [← hρ0] at hret
  replace hS : AS ρ0 s.heap ρ z H locs := hρ0 ▸ hS
  replace hl : lv_has ls 1 [(0, .ref v0)] := hl
  unfold fX0_init at hf
  refine lv_aload_n hx hb dX0_init_0 rfl (lv_at hl 0 rfl) ?_
  refine W.objInit hx hb hown (hts _ tw_1_34) (hts _ tw_1_27) (hts _ tw_1_28) rfl (by rw [hml]; exact hl.1) rfl dX0_init_1 (Nat.le_of_ble_eq_true rfl) (Nat.le_of_ble_eq_true rfl) ?_
  show W p l e rX0_init s m args below meth c H locs 0 0 Q (F0 m 4 ls [])
  refine lv_aload_n hx hb dX0_init_4 rfl (lv_at hl 0 rfl) ?_
  refine lv_bipush (v := 8) hx hb dX0_init_5 (by decide) ?_
  obtain ⟨x1, h1, hf⟩ := Option.bind_eq_some_iff.mp hf
  refine a_newI (N' := 8) hx hb (hts _ (lw_t1 (List.mem_of_getElem? (i := 93) rfl) rfl)) hK hR hS (by decide) (by decide) (Nat.le_of_ble_eq_true rfl) (Nat.le_of_ble_eq_true rfl) (Nat.le_of_ble_eq_true rfl) dX0_init_7 (fun H hR hS => ?_)
  rw [Option.some.inj h1] at hR hS
  obtain ⟨x2, h2, hf⟩ := Option.bind_eq_some_iff.mp hf
  refine a_ptF hx hb hts inX0 tyX0 tyX0_ok nmX0 hown hK hR hS rfl 0 (by decide) (hts _ tw_1_35) rfl (hin0.trans rfl) rfl (ty := tyX0 0) (tyX0_ok 0 (by decide)) rfl rfl h2 dX0_init_9 (fun H locs hR hS => ?_)
  refine lv_aload_n hx hb dX0_init_12 rfl (lv_at hl 0 rfl) ?_
  refine lv_bipush (v := 8) hx hb dX0_init_13 (by decide) ?_
  obtain ⟨x3, h3, hf⟩ := Option.bind_eq_some_iff.mp hf
  refine a_newI (N' := 8) hx hb (hts _ (lw_t1 (List.mem_of_getElem? (i := 93) rfl) rfl)) hK hR hS (by decide) (by decide) (Nat.le_of_ble_eq_true rfl) (Nat.le_of_ble_eq_true rfl) (Nat.le_of_ble_eq_true rfl) dX0_init_15 (fun H hR hS => ?_)
  rw [Option.some.inj h3] at hR hS
  obtain ⟨x4, h4, hf⟩ := Option.bind_eq_some_iff.mp hf
  refine a_ptF hx hb hts inX0 tyX0 tyX0_ok nmX0 hown hK hR hS rfl 1 (by decide) (hts _ tw_1_39) rfl (hin0.trans rfl) rfl (ty := tyX0 1) (tyX0_ok 1 (by decide)) rfl rfl h4 dX0_init_17 (fun H locs hR hS => ?_)
  refine lv_aload_n hx hb dX0_init_20 rfl (lv_at hl 0 rfl) ?_
  refine lv_bipush (v := 8) hx hb dX0_init_21 (by decide) ?_
  obtain ⟨x5, h5, hf⟩ := Option.bind_eq_some_iff.mp hf
  refine a_newI (N' := 8) hx hb (hts _ (lw_t1 (List.mem_of_getElem? (i := 93) rfl) rfl)) hK hR hS (by decide) (by decide) (Nat.le_of_ble_eq_true rfl) (Nat.le_of_ble_eq_true rfl) (Nat.le_of_ble_eq_true rfl) dX0_init_23 (fun H hR hS => ?_)
  rw [Option.some.inj h5] at hR hS
  obtain ⟨x6, h6, hf⟩ := Option.bind_eq_some_iff.mp hf
  refine a_ptF hx hb hts inX0 tyX0 tyX0_ok nmX0 hown hK hR hS rfl 2 (by decide) (hts _ tw_1_43) rfl (hin0.trans rfl) rfl (ty := tyX0 2) (tyX0_ok 2 (by decide)) rfl rfl h6 dX0_init_25 (fun H locs hR hS => ?_)
  refine lv_aload_n hx hb dX0_init_28 rfl (lv_at hl 0 rfl) ?_
  refine lv_bipush (v := 8) hx hb dX0_init_29 (by decide) ?_
  obtain ⟨x7, h7, hf⟩ := Option.bind_eq_some_iff.mp hf
  refine a_newI (N' := 8) hx hb (hts _ (lw_t1 (List.mem_of_getElem? (i := 93) rfl) rfl)) hK hR hS (by decide) (by decide) (Nat.le_of_ble_eq_true rfl) (Nat.le_of_ble_eq_true rfl) (Nat.le_of_ble_eq_true rfl) dX0_init_31 (fun H hR hS => ?_)
  rw [Option.some.inj h7] at hR hS
  obtain ⟨x8, h8, hf⟩ := Option.bind_eq_some_iff.mp hf
  refine a_ptF hx hb hts inX0 tyX0 tyX0_ok nmX0 hown hK hR hS rfl 3 (by decide) (hts _ tw_1_45) rfl (hin0.trans rfl) rfl (ty := tyX0 3) (tyX0_ok 3 (by decide)) rfl rfl h8 dX0_init_33 (fun H locs hR hS => ?_)
  refine lv_aload_n hx hb dX0_init_36 rfl (lv_at hl 0 rfl) ?_
  refine lv_iconst (v := 4) hx hb dX0_init_37 (by decide) ?_
  obtain ⟨x9, h9, hf⟩ := Option.bind_eq_some_iff.mp hf
  refine a_newI (N' := 4) hx hb (hts _ (lw_t1 (List.mem_of_getElem? (i := 93) rfl) rfl)) hK hR hS (by decide) (by decide) (Nat.le_of_ble_eq_true rfl) (Nat.le_of_ble_eq_true rfl) (Nat.le_of_ble_eq_true rfl) dX0_init_38 (fun H hR hS => ?_)
  rw [Option.some.inj h9] at hR hS
  obtain ⟨x10, h10, hf⟩ := Option.bind_eq_some_iff.mp hf
  refine a_ptF hx hb hts inX0 tyX0 tyX0_ok nmX0 hown hK hR hS rfl 4 (by decide) (hts _ tw_1_47) rfl (hin0.trans rfl) rfl (ty := tyX0 4) (tyX0_ok 4 (by decide)) rfl rfl h10 dX0_init_40 (fun H locs hR hS => ?_)
  refine lv_aload_n hx hb dX0_init_43 rfl (lv_at hl 0 rfl) ?_
  refine lv_iconst (v := 0) hx hb dX0_init_44 (by decide) ?_
  obtain ⟨x11, h11, hf⟩ := Option.bind_eq_some_iff.mp hf
  refine a_ptV hx hb hts inX0 tyX0 tyX0_ok nmX0 hown hK hR hS rfl 5 (by decide) (hts _ tw_1_48) rfl (ty := tyX0 5) (tyX0_ok 5 (by decide)) rfl rfl h11 dX0_init_45 (fun H locs hR hS => ?_)
  refine lv_aload_n hx hb dX0_init_48 rfl (lv_at hl 0 rfl) ?_
  refine lv_iconst (v := 0) hx hb dX0_init_49 (by decide) ?_
  obtain ⟨x12, h12, hf⟩ := Option.bind_eq_some_iff.mp hf
  refine a_ptV hx hb hts inX0 tyX0 tyX0_ok nmX0 hown hK hR hS rfl 6 (by decide) (hts _ tw_1_54) rfl (ty := tyX0 6) (tyX0_ok 6 (by decide)) rfl rfl h12 dX0_init_50 (fun H locs hR hS => ?_)
  refine lv_aload_n hx hb dX0_init_53 rfl (lv_at hl 0 rfl) ?_
  refine lv_bipush (v := 12) hx hb dX0_init_54 (by decide) ?_
  obtain ⟨x13, h13, hf⟩ := Option.bind_eq_some_iff.mp hf
  refine a_ptV hx hb hts inX0 tyX0 tyX0_ok nmX0 hown hK hR hS rfl 7 (by decide) (hts _ tw_1_58) rfl (ty := tyX0 7) (tyX0_ok 7 (by decide)) rfl rfl h13 dX0_init_56 (fun H locs hR hS => ?_)
  refine lv_aload_n hx hb dX0_init_59 rfl (lv_at hl 0 rfl) ?_
  refine lv_iconst (v := 0) hx hb dX0_init_60 (by decide) ?_
  obtain ⟨x14, h14, hf⟩ := Option.bind_eq_some_iff.mp hf
  refine a_ptV hx hb hts inX0 tyX0 tyX0_ok nmX0 hown hK hR hS rfl 8 (by decide) (hts _ tw_1_63) rfl (ty := tyX0 8) (tyX0_ok 8 (by decide)) rfl rfl h14 dX0_init_61 (fun H locs hR hS => ?_)
  refine lv_aload_n hx hb dX0_init_64 rfl (lv_at hl 0 rfl) ?_
  refine lv_iconst (v := 0) hx hb dX0_init_65 (by decide) ?_
  obtain ⟨x15, h15, hf⟩ := Option.bind_eq_some_iff.mp hf
  refine a_ptV hx hb hts inX0 tyX0 tyX0_ok nmX0 hown hK hR hS rfl 9 (by decide) (hts _ tw_1_65) rfl (ty := tyX0 9) (tyX0_ok 9 (by decide)) rfl rfl h15 dX0_init_66 (fun H locs hR hS => ?_)
  refine lv_aload_n hx hb dX0_init_69 rfl (lv_at hl 0 rfl) ?_
  refine lv_iconst (v := 1) hx hb dX0_init_70 (by decide) ?_
  obtain ⟨x16, h16, hf⟩ := Option.bind_eq_some_iff.mp hf
  refine a_ptV hx hb hts inX0 tyX0 tyX0_ok nmX0 hown hK hR hS rfl 10 (by decide) (hts _ tw_1_68) rfl (ty := tyX0 10) (tyX0_ok 10 (by decide)) rfl rfl h16 dX0_init_71 (fun H locs hR hS => ?_)
  exact hret _ _ _ _ _ _ dX0_init_74 hR hS hf
/-! BrickedUpAsBlind.Shelf.<init>()V -/
def fX6_init (ρ : Rho) (z : Nat) (v0 : Nat) : Option (Rho × Nat) :=
    (ptV ρ 1 v0 0 (.int 0)).bind fun x1 =>
    (ptV x1 1 v0 1 (.int 0)).bind fun x2 =>
    (ptV x2 1 v0 2 (.int 0)).bind fun x3 =>
    (ptV x3 1 v0 3 (.int 0)).bind fun x4 =>
    (ptV x4 1 v0 4 (.int 0)).bind fun x5 =>
    (some (rset x5 z (iC 100 (fun _ => 0)))).bind fun x6 =>
    (ptV x6 1 v0 5 (.ref z)).bind fun x7 =>
    some (x7, (z + 1))
abbrev rX6_init : Room := { frames := 1, cells := 1, slots := 100, locals := 64 }
theorem hdX6_init : hdP yX6_init 0 := by unfold hdP; decide +kernel
set_option maxHeartbeats 4000000 in
set_option maxRecDepth 100000 in
theorem kX6_init (l : Launch) (G : GD) (ρ : Rho) (z : Nat) (v0 : Nat) (ρ1 : Rho) (z1 : Nat) (hf : fX6_init ρ z v0 = some (ρ1, z1)) : AM l G yX6_init (Cond.code yX6_init cX6_init 1 none :: LW) rX6_init ρ z [.ref v0] (none) ρ1 z1 1 100 := by
  obtain ⟨r, hr⟩ : ∃ r, r = (ρ1, z1) := ⟨_, rfl⟩
  rw [← hr] at hf
  refine AM.ofV (own := RX6) (r := r) hr (by decide) rfl (Nat.le_of_ble_eq_true rfl) ?_
  intro p e s m args below meth c H locs Q hx hb hml hown hts hin0 hK hO hR hS hret ls hl
  obtain ⟨ρ0, hρ0⟩ : ∃ y, y = ρ := ⟨_, rfl⟩
  rw [← hρ0] at hret
  replace hS : AS ρ0 s.heap ρ z H locs := hρ0 ▸ hS
  replace hl : lv_has ls 1 [(0, .ref v0)] := hl
  unfold fX6_init at hf
  refine lv_aload_n hx hb dX6_init_0 rfl (lv_at hl 0 rfl) ?_
  refine W.objInit hx hb hown (hts _ tw_1_100) (hts _ tw_1_27) (hts _ tw_1_28) rfl (by rw [hml]; exact hl.1) rfl dX6_init_1 (Nat.le_of_ble_eq_true rfl) (Nat.le_of_ble_eq_true rfl) ?_
  show W p l e rX6_init s m args below meth c H locs 0 0 Q (F0 m 4 ls [])
  refine lv_aload_n hx hb dX6_init_4 rfl (lv_at hl 0 rfl) ?_
  refine lv_iconst (v := 0) hx hb dX6_init_5 (by decide) ?_
  obtain ⟨x1, h1, hf⟩ := Option.bind_eq_some_iff.mp hf
  refine a_ptV hx hb hts inX6 tyX6 tyX6_ok nmX6 hown hK hR hS rfl 0 (by decide) (hts _ tw_1_101) rfl (ty := tyX6 0) (tyX6_ok 0 (by decide)) rfl rfl h1 dX6_init_6 (fun H locs hR hS => ?_)
  refine lv_aload_n hx hb dX6_init_9 rfl (lv_at hl 0 rfl) ?_
  refine lv_iconst (v := 0) hx hb dX6_init_10 (by decide) ?_
  obtain ⟨x2, h2, hf⟩ := Option.bind_eq_some_iff.mp hf
  refine a_ptV hx hb hts inX6 tyX6 tyX6_ok nmX6 hown hK hR hS rfl 1 (by decide) (hts _ tw_1_103) rfl (ty := tyX6 1) (tyX6_ok 1 (by decide)) rfl rfl h2 dX6_init_11 (fun H locs hR hS => ?_)
  refine lv_aload_n hx hb dX6_init_14 rfl (lv_at hl 0 rfl) ?_
  refine lv_iconst (v := 0) hx hb dX6_init_15 (by decide) ?_
  obtain ⟨x3, h3, hf⟩ := Option.bind_eq_some_iff.mp hf
  refine a_ptV hx hb hts inX6 tyX6 tyX6_ok nmX6 hown hK hR hS rfl 2 (by decide) (hts _ tw_1_105) rfl (ty := tyX6 2) (tyX6_ok 2 (by decide)) rfl rfl h3 dX6_init_16 (fun H locs hR hS => ?_)
  refine lv_aload_n hx hb dX6_init_19 rfl (lv_at hl 0 rfl) ?_
  refine lv_iconst (v := 0) hx hb dX6_init_20 (by decide) ?_
  obtain ⟨x4, h4, hf⟩ := Option.bind_eq_some_iff.mp hf
  refine a_ptV hx hb hts inX6 tyX6 tyX6_ok nmX6 hown hK hR hS rfl 3 (by decide) (hts _ tw_1_107) rfl (ty := tyX6 3) (tyX6_ok 3 (by decide)) rfl rfl h4 dX6_init_21 (fun H locs hR hS => ?_)
  refine lv_aload_n hx hb dX6_init_24 rfl (lv_at hl 0 rfl) ?_
  refine lv_iconst (v := 0) hx hb dX6_init_25 (by decide) ?_
  obtain ⟨x5, h5, hf⟩ := Option.bind_eq_some_iff.mp hf
  refine a_ptV hx hb hts inX6 tyX6 tyX6_ok nmX6 hown hK hR hS rfl 4 (by decide) (hts _ tw_1_109) rfl (ty := tyX6 4) (tyX6_ok 4 (by decide)) rfl rfl h5 dX6_init_26 (fun H locs hR hS => ?_)
  refine lv_aload_n hx hb dX6_init_29 rfl (lv_at hl 0 rfl) ?_
  refine lv_bipush (v := 100) hx hb dX6_init_30 (by decide) ?_
  obtain ⟨x6, h6, hf⟩ := Option.bind_eq_some_iff.mp hf
  refine a_newI (N' := 100) hx hb (hts _ (lw_t1 (List.mem_of_getElem? (i := 93) rfl) rfl)) hK hR hS (by decide) (by decide) (Nat.le_of_ble_eq_true rfl) (Nat.le_of_ble_eq_true rfl) (Nat.le_of_ble_eq_true rfl) dX6_init_32 (fun H hR hS => ?_)
  rw [Option.some.inj h6] at hR hS
  obtain ⟨x7, h7, hf⟩ := Option.bind_eq_some_iff.mp hf
  refine a_ptF hx hb hts inX6 tyX6 tyX6_ok nmX6 hown hK hR hS rfl 5 (by decide) (hts _ tw_1_114) rfl (hin0.trans rfl) rfl (ty := tyX6 5) (tyX6_ok 5 (by decide)) rfl rfl h7 dX6_init_34 (fun H locs hR hS => ?_)
  exact hret _ _ _ _ _ _ dX6_init_37 hR hS hf
/-! BrickedUpAsBlind.<init>()V -/
def fX9_init (ρ : Rho) (z : Nat) (v0 : Nat) : Option (Rho × Nat) :=
    (some (rset ρ z (oC 0 [.null, .null, .null, .null, .null, .int 0, .int 0, .int 0, .int 0, .int 0, .int 0]))).bind fun x1 =>
    (fX0_init x1 (z + 1) z).bind fun x2 =>
    (ptV x2.1 2 v0 0 (.ref z)).bind fun x3 =>
    (some (rset x3 x2.2 (oC 0 [.null, .null, .null, .null, .null, .int 0, .int 0, .int 0, .int 0, .int 0, .int 0]))).bind fun x4 =>
    (fX0_init x4 (x2.2 + 1) x2.2).bind fun x5 =>
    (ptV x5.1 2 v0 1 (.ref x2.2)).bind fun x6 =>
    (some (rset x6 x5.2 (oC 0 [.null, .null, .null, .null, .null, .int 0, .int 0, .int 0, .int 0, .int 0, .int 0]))).bind fun x7 =>
    (fX0_init x7 (x5.2 + 1) x5.2).bind fun x8 =>
    (ptV x8.1 2 v0 2 (.ref x5.2)).bind fun x9 =>
    (ptV x9 2 v0 4 (.int 0)).bind fun x10 =>
    (some (rset x10 x8.2 (rC 8 (fun _ => none)))).bind fun x11 =>
    (ptV x11 2 v0 3 (.ref x8.2)).bind fun x12 =>
    (gR x12 2 v0 3).bind fun x14 =>
    (some (rset x12 (x8.2 + 1) (oC 1 [.int 0, .int 0, .int 0, .int 0, .int 0, .null]))).bind fun x15 =>
    (fX6_init x15 ((x8.2 + 1) + 1) (x8.2 + 1)).bind fun x16 =>
    (stR x16.1 x14 0 (x8.2 + 1)).bind fun x17 =>
    (gR x17 2 v0 3).bind fun x19 =>
    (some (rset x17 x16.2 (oC 1 [.int 0, .int 0, .int 0, .int 0, .int 0, .null]))).bind fun x20 =>
    (fX6_init x20 (x16.2 + 1) x16.2).bind fun x21 =>
    (stR x21.1 x19 1 x16.2).bind fun x22 =>
    (gR x22 2 v0 3).bind fun x24 =>
    (some (rset x22 x21.2 (oC 1 [.int 0, .int 0, .int 0, .int 0, .int 0, .null]))).bind fun x25 =>
    (fX6_init x25 (x21.2 + 1) x21.2).bind fun x26 =>
    (stR x26.1 x24 2 x21.2).bind fun x27 =>
    (gR x27 2 v0 3).bind fun x29 =>
    (some (rset x27 x26.2 (oC 1 [.int 0, .int 0, .int 0, .int 0, .int 0, .null]))).bind fun x30 =>
    (fX6_init x30 (x26.2 + 1) x26.2).bind fun x31 =>
    (stR x31.1 x29 3 x26.2).bind fun x32 =>
    (gR x32 2 v0 3).bind fun x34 =>
    (some (rset x32 x31.2 (oC 1 [.int 0, .int 0, .int 0, .int 0, .int 0, .null]))).bind fun x35 =>
    (fX6_init x35 (x31.2 + 1) x31.2).bind fun x36 =>
    (stR x36.1 x34 4 x31.2).bind fun x37 =>
    (gR x37 2 v0 3).bind fun x39 =>
    (some (rset x37 x36.2 (oC 1 [.int 0, .int 0, .int 0, .int 0, .int 0, .null]))).bind fun x40 =>
    (fX6_init x40 (x36.2 + 1) x36.2).bind fun x41 =>
    (stR x41.1 x39 5 x36.2).bind fun x42 =>
    (gR x42 2 v0 3).bind fun x44 =>
    (some (rset x42 x41.2 (oC 1 [.int 0, .int 0, .int 0, .int 0, .int 0, .null]))).bind fun x45 =>
    (fX6_init x45 (x41.2 + 1) x41.2).bind fun x46 =>
    (stR x46.1 x44 6 x41.2).bind fun x47 =>
    (gR x47 2 v0 3).bind fun x49 =>
    (some (rset x47 x46.2 (oC 1 [.int 0, .int 0, .int 0, .int 0, .int 0, .null]))).bind fun x50 =>
    (fX6_init x50 (x46.2 + 1) x46.2).bind fun x51 =>
    (stR x51.1 x49 7 x46.2).bind fun x52 =>
    some (x52, x51.2)
abbrev rX9_init : Room := { frames := 2, cells := 35, slots := 997, locals := 84 }
theorem hdX9_init : hdP yX9_init 0 := by unfold hdP; decide +kernel
set_option maxHeartbeats 4000000 in
set_option maxRecDepth 100000 in
theorem kX9_init (l : Launch) (G : GD) (ρ : Rho) (z : Nat) (v0 : Nat) (ρ1 : Rho) (z1 : Nat) (hf : fX9_init ρ z v0 = some (ρ1, z1)) : AM l G yX9_init (Cond.code yX9_init cX9_init 2 none :: LW) rX9_init ρ z [.ref v0] (none) ρ1 z1 35 997 := by
  obtain ⟨r, hr⟩ : ∃ r, r = (ρ1, z1) := ⟨_, rfl⟩
  rw [← hr] at hf
  refine AM.ofV (own := RX9) (r := r) hr (by decide) rfl (Nat.le_of_ble_eq_true rfl) ?_
  intro p e s m args below meth c H locs Q hx hb hml hown hts hin0 hK hO hR hS hret ls hl
  obtain ⟨ρ0, hρ0⟩ : ∃ y, y = ρ := ⟨_, rfl⟩
  rw [← hρ0] at hret
  replace hS : AS ρ0 s.heap ρ z H locs := hρ0 ▸ hS
  replace hl : lv_has ls 2 [(0, .ref v0)] := hl
  unfold fX9_init at hf
  refine lv_aload_n hx hb dX9_init_0 rfl (lv_at hl 0 rfl) ?_
  refine W.objInit hx hb hown (hts _ tw_1_26) (hts _ tw_1_27) (hts _ tw_1_28) rfl (by rw [hml]; exact hl.1) rfl dX9_init_1 (Nat.le_of_ble_eq_true rfl) (Nat.le_of_ble_eq_true rfl) ?_
  show W p l e rX9_init s m args below meth c H locs 0 0 Q (F0 m 4 ls [])
  refine lv_aload_n hx hb dX9_init_4 rfl (lv_at hl 0 rfl) ?_
  obtain ⟨x1, h1, hf⟩ := Option.bind_eq_some_iff.mp hf
  refine a_new (ci := 0) (fs := [.null, .null, .null, .null, .null, .int 0, .int 0, .int 0, .int 0, .int 0, .int 0]) hx hb hts inX0 tyX0 tyX0_ok hown (hts _ tw_1_29) (hts _ tw_1_30) (hts _ tw_1_2) hK hR hS rfl (fun j hj => by rcases (show j = 0 ∨ j = 1 ∨ j = 2 ∨ j = 3 ∨ j = 4 ∨ j = 5 ∨ j = 6 ∨ j = 7 ∨ j = 8 ∨ j = 9 ∨ j = 10 by omega) with rfl | rfl | rfl | rfl | rfl | rfl | rfl | rfl | rfl | rfl | rfl <;> rfl) (Nat.le_of_ble_eq_true rfl) (Nat.le_of_ble_eq_true rfl) dX9_init_5 (fun H hR hS => ?_)
  rw [Option.some.inj h1] at hR hS
  refine lv_dup hx hb dX9_init_8 rfl ?_
  obtain ⟨x2, h2, hf⟩ := Option.bind_eq_some_iff.mp hf
  refine a_callI (As := []) (rest := [.ref z, .ref v0]) (st1 := [.ref z, .ref v0]) ⟨hx, hb, hml, hown, hts⟩ (kX0_init l G x1 (z + 1) z _ _ h2) (cu_I hts tw_1_33 tw_1_31 tw_1_32 tw_1_2 hdX0_init rfl rfl rfl ⟨(Nat.le_of_ble_eq_true rfl), (Nat.le_of_ble_eq_true rfl)⟩) hK hO hR hS rfl hl.1 rfl (Nat.le_of_ble_eq_true rfl) dX9_init_9 ⟨Nat.le_of_ble_eq_true rfl, Nat.le_of_ble_eq_true rfl⟩ rfl (fun H locs hR hS => ?_)
  obtain ⟨x3, h3, hf⟩ := Option.bind_eq_some_iff.mp hf
  refine a_ptF hx hb hts inX9 tyX9 tyX9_ok nmX9 hown hK hR hS rfl 0 (by decide) (hts _ tw_1_132) rfl (hin0.trans rfl) rfl (ty := tyX9 0) (tyX9_ok 0 (by decide)) rfl rfl h3 dX9_init_12 (fun H locs hR hS => ?_)
  refine lv_aload_n hx hb dX9_init_15 rfl (lv_at hl 0 rfl) ?_
  obtain ⟨x4, h4, hf⟩ := Option.bind_eq_some_iff.mp hf
  refine a_new (ci := 0) (fs := [.null, .null, .null, .null, .null, .int 0, .int 0, .int 0, .int 0, .int 0, .int 0]) hx hb hts inX0 tyX0 tyX0_ok hown (hts _ tw_1_29) (hts _ tw_1_30) (hts _ tw_1_2) hK hR hS rfl (fun j hj => by rcases (show j = 0 ∨ j = 1 ∨ j = 2 ∨ j = 3 ∨ j = 4 ∨ j = 5 ∨ j = 6 ∨ j = 7 ∨ j = 8 ∨ j = 9 ∨ j = 10 by omega) with rfl | rfl | rfl | rfl | rfl | rfl | rfl | rfl | rfl | rfl | rfl <;> rfl) (Nat.le_of_ble_eq_true rfl) (Nat.le_of_ble_eq_true rfl) dX9_init_16 (fun H hR hS => ?_)
  rw [Option.some.inj h4] at hR hS
  refine lv_dup hx hb dX9_init_19 rfl ?_
  obtain ⟨x5, h5, hf⟩ := Option.bind_eq_some_iff.mp hf
  refine a_callI (As := []) (rest := [.ref x2.2, .ref v0]) (st1 := [.ref x2.2, .ref v0]) ⟨hx, hb, hml, hown, hts⟩ (kX0_init l G x4 (x2.2 + 1) x2.2 _ _ h5) (cu_I hts tw_1_33 tw_1_31 tw_1_32 tw_1_2 hdX0_init rfl rfl rfl ⟨(Nat.le_of_ble_eq_true rfl), (Nat.le_of_ble_eq_true rfl)⟩) hK hO hR hS rfl hl.1 rfl (Nat.le_of_ble_eq_true rfl) dX9_init_20 ⟨Nat.le_of_ble_eq_true rfl, Nat.le_of_ble_eq_true rfl⟩ rfl (fun H locs hR hS => ?_)
  obtain ⟨x6, h6, hf⟩ := Option.bind_eq_some_iff.mp hf
  refine a_ptF hx hb hts inX9 tyX9 tyX9_ok nmX9 hown hK hR hS rfl 1 (by decide) (hts _ tw_1_133) rfl (hin0.trans rfl) rfl (ty := tyX9 1) (tyX9_ok 1 (by decide)) rfl rfl h6 dX9_init_23 (fun H locs hR hS => ?_)
  refine lv_aload_n hx hb dX9_init_26 rfl (lv_at hl 0 rfl) ?_
  obtain ⟨x7, h7, hf⟩ := Option.bind_eq_some_iff.mp hf
  refine a_new (ci := 0) (fs := [.null, .null, .null, .null, .null, .int 0, .int 0, .int 0, .int 0, .int 0, .int 0]) hx hb hts inX0 tyX0 tyX0_ok hown (hts _ tw_1_29) (hts _ tw_1_30) (hts _ tw_1_2) hK hR hS rfl (fun j hj => by rcases (show j = 0 ∨ j = 1 ∨ j = 2 ∨ j = 3 ∨ j = 4 ∨ j = 5 ∨ j = 6 ∨ j = 7 ∨ j = 8 ∨ j = 9 ∨ j = 10 by omega) with rfl | rfl | rfl | rfl | rfl | rfl | rfl | rfl | rfl | rfl | rfl <;> rfl) (Nat.le_of_ble_eq_true rfl) (Nat.le_of_ble_eq_true rfl) dX9_init_27 (fun H hR hS => ?_)
  rw [Option.some.inj h7] at hR hS
  refine lv_dup hx hb dX9_init_30 rfl ?_
  obtain ⟨x8, h8, hf⟩ := Option.bind_eq_some_iff.mp hf
  refine a_callI (As := []) (rest := [.ref x5.2, .ref v0]) (st1 := [.ref x5.2, .ref v0]) ⟨hx, hb, hml, hown, hts⟩ (kX0_init l G x7 (x5.2 + 1) x5.2 _ _ h8) (cu_I hts tw_1_33 tw_1_31 tw_1_32 tw_1_2 hdX0_init rfl rfl rfl ⟨(Nat.le_of_ble_eq_true rfl), (Nat.le_of_ble_eq_true rfl)⟩) hK hO hR hS rfl hl.1 rfl (Nat.le_of_ble_eq_true rfl) dX9_init_31 ⟨Nat.le_of_ble_eq_true rfl, Nat.le_of_ble_eq_true rfl⟩ rfl (fun H locs hR hS => ?_)
  obtain ⟨x9, h9, hf⟩ := Option.bind_eq_some_iff.mp hf
  refine a_ptF hx hb hts inX9 tyX9 tyX9_ok nmX9 hown hK hR hS rfl 2 (by decide) (hts _ tw_1_134) rfl (hin0.trans rfl) rfl (ty := tyX9 2) (tyX9_ok 2 (by decide)) rfl rfl h9 dX9_init_34 (fun H locs hR hS => ?_)
  refine lv_aload_n hx hb dX9_init_37 rfl (lv_at hl 0 rfl) ?_
  refine lv_iconst (v := 0) hx hb dX9_init_38 (by decide) ?_
  obtain ⟨x10, h10, hf⟩ := Option.bind_eq_some_iff.mp hf
  refine a_ptV hx hb hts inX9 tyX9 tyX9_ok nmX9 hown hK hR hS rfl 4 (by decide) (hts _ tw_1_136) rfl (ty := tyX9 4) (tyX9_ok 4 (by decide)) rfl rfl h10 dX9_init_39 (fun H locs hR hS => ?_)
  refine lv_aload_n hx hb dX9_init_42 rfl (lv_at hl 0 rfl) ?_
  refine lv_bipush (v := 8) hx hb dX9_init_43 (by decide) ?_
  obtain ⟨x11, h11, hf⟩ := Option.bind_eq_some_iff.mp hf
  refine a_newR (N' := 8) hx hb hown (hts _ tw_1_94) hO hK hR hS (by decide) (by decide) (Nat.le_of_ble_eq_true rfl) (Nat.le_of_ble_eq_true rfl) (Nat.le_of_ble_eq_true rfl) dX9_init_45 (fun H hR hS => ?_)
  rw [Option.some.inj h11] at hR hS
  obtain ⟨x12, h12, hf⟩ := Option.bind_eq_some_iff.mp hf
  refine a_ptF hx hb hts inX9 tyX9 tyX9_ok nmX9 hown hK hR hS rfl 3 (by decide) (hts _ tw_1_135) rfl (hin0.trans rfl) rfl (ty := tyX9 3) (tyX9_ok 3 (by decide)) rfl rfl h12 dX9_init_48 (fun H locs hR hS => ?_)
  refine lv_iconst (v := 0) hx hb dX9_init_51 (by decide) ?_
  refine lv_istore_n (lv' := [(1, .int 0), (0, .ref v0)]) hx hb dX9_init_52 rfl hl (by decide) rfl (fun ls hl => ?_)
  refine lv_iload_n hx hb dX9_init_53 rfl (lv_at hl 0 rfl) ?_
  refine lv_bipush (v := 8) hx hb dX9_init_54 (by decide) ?_
  refine lv_icmp_ge (tgt := 78) hx hb dX9_init_56 (by decide) (fun c13 => ?_) (fun c13 => ?_)
  · exact absurd c13 (by decide)
  refine lv_aload_n hx hb dX9_init_59 rfl (lv_at hl 1 rfl) ?_
  obtain ⟨x14, h14, hf⟩ := Option.bind_eq_some_iff.mp hf
  refine r_gR hx hb hts inX9 hown hK hR rfl 3 (by decide) (hts _ tw_1_135) h14 dX9_init_60 ?_
  refine lv_iload_n hx hb dX9_init_63 rfl (lv_at hl 0 rfl) ?_
  obtain ⟨x15, h15, hf⟩ := Option.bind_eq_some_iff.mp hf
  refine a_new (ci := 1) (fs := [.int 0, .int 0, .int 0, .int 0, .int 0, .null]) hx hb hts inX6 tyX6 tyX6_ok hown (hts _ tw_1_94) (hts _ tw_1_96) (hts _ tw_1_3) hK hR hS rfl (fun j hj => by rcases (show j = 0 ∨ j = 1 ∨ j = 2 ∨ j = 3 ∨ j = 4 ∨ j = 5 by omega) with rfl | rfl | rfl | rfl | rfl | rfl <;> rfl) (Nat.le_of_ble_eq_true rfl) (Nat.le_of_ble_eq_true rfl) dX9_init_64 (fun H hR hS => ?_)
  rw [Option.some.inj h15] at hR hS
  refine lv_dup hx hb dX9_init_67 rfl ?_
  obtain ⟨x16, h16, hf⟩ := Option.bind_eq_some_iff.mp hf
  refine a_callI (As := []) (rest := [.ref (x8.2 + 1), .int 0, .ref x14]) (st1 := [.ref (x8.2 + 1), .int 0, .ref x14]) ⟨hx, hb, hml, hown, hts⟩ (kX6_init l G x15 ((x8.2 + 1) + 1) (x8.2 + 1) _ _ h16) (cu_I hts tw_1_99 tw_1_97 tw_1_98 tw_1_3 hdX6_init rfl rfl rfl ⟨(Nat.le_of_ble_eq_true rfl), (Nat.le_of_ble_eq_true rfl)⟩) hK hO hR hS rfl hl.1 rfl (Nat.le_of_ble_eq_true rfl) dX9_init_68 ⟨Nat.le_of_ble_eq_true rfl, Nat.le_of_ble_eq_true rfl⟩ rfl (fun H locs hR hS => ?_)
  obtain ⟨x17, h17, hf⟩ := Option.bind_eq_some_iff.mp hf
  refine a_stR hx hb hK hR hS h17 dX9_init_71 (fun H locs hR hS => ?_)
  refine lv_iinc (v := 1) (lv' := [(1, .int 1), (0, .ref v0)]) hx hb dX9_init_72 hl (k := 0) rfl rfl (by decide) rfl (fun ls hl => ?_)
  refine lv_goto (tgt := 53) hx hb dX9_init_75 (by decide) ?_
  refine lv_iload_n hx hb dX9_init_53 rfl (lv_at hl 0 rfl) ?_
  refine lv_bipush (v := 8) hx hb dX9_init_54 (by decide) ?_
  refine lv_icmp_ge (tgt := 78) hx hb dX9_init_56 (by decide) (fun c18 => ?_) (fun c18 => ?_)
  · exact absurd c18 (by decide)
  refine lv_aload_n hx hb dX9_init_59 rfl (lv_at hl 1 rfl) ?_
  obtain ⟨x19, h19, hf⟩ := Option.bind_eq_some_iff.mp hf
  refine r_gR hx hb hts inX9 hown hK hR rfl 3 (by decide) (hts _ tw_1_135) h19 dX9_init_60 ?_
  refine lv_iload_n hx hb dX9_init_63 rfl (lv_at hl 0 rfl) ?_
  obtain ⟨x20, h20, hf⟩ := Option.bind_eq_some_iff.mp hf
  refine a_new (ci := 1) (fs := [.int 0, .int 0, .int 0, .int 0, .int 0, .null]) hx hb hts inX6 tyX6 tyX6_ok hown (hts _ tw_1_94) (hts _ tw_1_96) (hts _ tw_1_3) hK hR hS rfl (fun j hj => by rcases (show j = 0 ∨ j = 1 ∨ j = 2 ∨ j = 3 ∨ j = 4 ∨ j = 5 by omega) with rfl | rfl | rfl | rfl | rfl | rfl <;> rfl) (Nat.le_of_ble_eq_true rfl) (Nat.le_of_ble_eq_true rfl) dX9_init_64 (fun H hR hS => ?_)
  rw [Option.some.inj h20] at hR hS
  refine lv_dup hx hb dX9_init_67 rfl ?_
  obtain ⟨x21, h21, hf⟩ := Option.bind_eq_some_iff.mp hf
  refine a_callI (As := []) (rest := [.ref x16.2, .int 1, .ref x19]) (st1 := [.ref x16.2, .int 1, .ref x19]) ⟨hx, hb, hml, hown, hts⟩ (kX6_init l G x20 (x16.2 + 1) x16.2 _ _ h21) (cu_I hts tw_1_99 tw_1_97 tw_1_98 tw_1_3 hdX6_init rfl rfl rfl ⟨(Nat.le_of_ble_eq_true rfl), (Nat.le_of_ble_eq_true rfl)⟩) hK hO hR hS rfl hl.1 rfl (Nat.le_of_ble_eq_true rfl) dX9_init_68 ⟨Nat.le_of_ble_eq_true rfl, Nat.le_of_ble_eq_true rfl⟩ rfl (fun H locs hR hS => ?_)
  obtain ⟨x22, h22, hf⟩ := Option.bind_eq_some_iff.mp hf
  refine a_stR hx hb hK hR hS h22 dX9_init_71 (fun H locs hR hS => ?_)
  refine lv_iinc (v := 2) (lv' := [(1, .int 2), (0, .ref v0)]) hx hb dX9_init_72 hl (k := 0) rfl rfl (by decide) rfl (fun ls hl => ?_)
  refine lv_goto (tgt := 53) hx hb dX9_init_75 (by decide) ?_
  refine lv_iload_n hx hb dX9_init_53 rfl (lv_at hl 0 rfl) ?_
  refine lv_bipush (v := 8) hx hb dX9_init_54 (by decide) ?_
  refine lv_icmp_ge (tgt := 78) hx hb dX9_init_56 (by decide) (fun c23 => ?_) (fun c23 => ?_)
  · exact absurd c23 (by decide)
  refine lv_aload_n hx hb dX9_init_59 rfl (lv_at hl 1 rfl) ?_
  obtain ⟨x24, h24, hf⟩ := Option.bind_eq_some_iff.mp hf
  refine r_gR hx hb hts inX9 hown hK hR rfl 3 (by decide) (hts _ tw_1_135) h24 dX9_init_60 ?_
  refine lv_iload_n hx hb dX9_init_63 rfl (lv_at hl 0 rfl) ?_
  obtain ⟨x25, h25, hf⟩ := Option.bind_eq_some_iff.mp hf
  refine a_new (ci := 1) (fs := [.int 0, .int 0, .int 0, .int 0, .int 0, .null]) hx hb hts inX6 tyX6 tyX6_ok hown (hts _ tw_1_94) (hts _ tw_1_96) (hts _ tw_1_3) hK hR hS rfl (fun j hj => by rcases (show j = 0 ∨ j = 1 ∨ j = 2 ∨ j = 3 ∨ j = 4 ∨ j = 5 by omega) with rfl | rfl | rfl | rfl | rfl | rfl <;> rfl) (Nat.le_of_ble_eq_true rfl) (Nat.le_of_ble_eq_true rfl) dX9_init_64 (fun H hR hS => ?_)
  rw [Option.some.inj h25] at hR hS
  refine lv_dup hx hb dX9_init_67 rfl ?_
  obtain ⟨x26, h26, hf⟩ := Option.bind_eq_some_iff.mp hf
  refine a_callI (As := []) (rest := [.ref x21.2, .int 2, .ref x24]) (st1 := [.ref x21.2, .int 2, .ref x24]) ⟨hx, hb, hml, hown, hts⟩ (kX6_init l G x25 (x21.2 + 1) x21.2 _ _ h26) (cu_I hts tw_1_99 tw_1_97 tw_1_98 tw_1_3 hdX6_init rfl rfl rfl ⟨(Nat.le_of_ble_eq_true rfl), (Nat.le_of_ble_eq_true rfl)⟩) hK hO hR hS rfl hl.1 rfl (Nat.le_of_ble_eq_true rfl) dX9_init_68 ⟨Nat.le_of_ble_eq_true rfl, Nat.le_of_ble_eq_true rfl⟩ rfl (fun H locs hR hS => ?_)
  obtain ⟨x27, h27, hf⟩ := Option.bind_eq_some_iff.mp hf
  refine a_stR hx hb hK hR hS h27 dX9_init_71 (fun H locs hR hS => ?_)
  refine lv_iinc (v := 3) (lv' := [(1, .int 3), (0, .ref v0)]) hx hb dX9_init_72 hl (k := 0) rfl rfl (by decide) rfl (fun ls hl => ?_)
  refine lv_goto (tgt := 53) hx hb dX9_init_75 (by decide) ?_
  refine lv_iload_n hx hb dX9_init_53 rfl (lv_at hl 0 rfl) ?_
  refine lv_bipush (v := 8) hx hb dX9_init_54 (by decide) ?_
  refine lv_icmp_ge (tgt := 78) hx hb dX9_init_56 (by decide) (fun c28 => ?_) (fun c28 => ?_)
  · exact absurd c28 (by decide)
  refine lv_aload_n hx hb dX9_init_59 rfl (lv_at hl 1 rfl) ?_
  obtain ⟨x29, h29, hf⟩ := Option.bind_eq_some_iff.mp hf
  refine r_gR hx hb hts inX9 hown hK hR rfl 3 (by decide) (hts _ tw_1_135) h29 dX9_init_60 ?_
  refine lv_iload_n hx hb dX9_init_63 rfl (lv_at hl 0 rfl) ?_
  obtain ⟨x30, h30, hf⟩ := Option.bind_eq_some_iff.mp hf
  refine a_new (ci := 1) (fs := [.int 0, .int 0, .int 0, .int 0, .int 0, .null]) hx hb hts inX6 tyX6 tyX6_ok hown (hts _ tw_1_94) (hts _ tw_1_96) (hts _ tw_1_3) hK hR hS rfl (fun j hj => by rcases (show j = 0 ∨ j = 1 ∨ j = 2 ∨ j = 3 ∨ j = 4 ∨ j = 5 by omega) with rfl | rfl | rfl | rfl | rfl | rfl <;> rfl) (Nat.le_of_ble_eq_true rfl) (Nat.le_of_ble_eq_true rfl) dX9_init_64 (fun H hR hS => ?_)
  rw [Option.some.inj h30] at hR hS
  refine lv_dup hx hb dX9_init_67 rfl ?_
  obtain ⟨x31, h31, hf⟩ := Option.bind_eq_some_iff.mp hf
  refine a_callI (As := []) (rest := [.ref x26.2, .int 3, .ref x29]) (st1 := [.ref x26.2, .int 3, .ref x29]) ⟨hx, hb, hml, hown, hts⟩ (kX6_init l G x30 (x26.2 + 1) x26.2 _ _ h31) (cu_I hts tw_1_99 tw_1_97 tw_1_98 tw_1_3 hdX6_init rfl rfl rfl ⟨(Nat.le_of_ble_eq_true rfl), (Nat.le_of_ble_eq_true rfl)⟩) hK hO hR hS rfl hl.1 rfl (Nat.le_of_ble_eq_true rfl) dX9_init_68 ⟨Nat.le_of_ble_eq_true rfl, Nat.le_of_ble_eq_true rfl⟩ rfl (fun H locs hR hS => ?_)
  obtain ⟨x32, h32, hf⟩ := Option.bind_eq_some_iff.mp hf
  refine a_stR hx hb hK hR hS h32 dX9_init_71 (fun H locs hR hS => ?_)
  refine lv_iinc (v := 4) (lv' := [(1, .int 4), (0, .ref v0)]) hx hb dX9_init_72 hl (k := 0) rfl rfl (by decide) rfl (fun ls hl => ?_)
  refine lv_goto (tgt := 53) hx hb dX9_init_75 (by decide) ?_
  refine lv_iload_n hx hb dX9_init_53 rfl (lv_at hl 0 rfl) ?_
  refine lv_bipush (v := 8) hx hb dX9_init_54 (by decide) ?_
  refine lv_icmp_ge (tgt := 78) hx hb dX9_init_56 (by decide) (fun c33 => ?_) (fun c33 => ?_)
  · exact absurd c33 (by decide)
  refine lv_aload_n hx hb dX9_init_59 rfl (lv_at hl 1 rfl) ?_
  obtain ⟨x34, h34, hf⟩ := Option.bind_eq_some_iff.mp hf
  refine r_gR hx hb hts inX9 hown hK hR rfl 3 (by decide) (hts _ tw_1_135) h34 dX9_init_60 ?_
  refine lv_iload_n hx hb dX9_init_63 rfl (lv_at hl 0 rfl) ?_
  obtain ⟨x35, h35, hf⟩ := Option.bind_eq_some_iff.mp hf
  refine a_new (ci := 1) (fs := [.int 0, .int 0, .int 0, .int 0, .int 0, .null]) hx hb hts inX6 tyX6 tyX6_ok hown (hts _ tw_1_94) (hts _ tw_1_96) (hts _ tw_1_3) hK hR hS rfl (fun j hj => by rcases (show j = 0 ∨ j = 1 ∨ j = 2 ∨ j = 3 ∨ j = 4 ∨ j = 5 by omega) with rfl | rfl | rfl | rfl | rfl | rfl <;> rfl) (Nat.le_of_ble_eq_true rfl) (Nat.le_of_ble_eq_true rfl) dX9_init_64 (fun H hR hS => ?_)
  rw [Option.some.inj h35] at hR hS
  refine lv_dup hx hb dX9_init_67 rfl ?_
  obtain ⟨x36, h36, hf⟩ := Option.bind_eq_some_iff.mp hf
  refine a_callI (As := []) (rest := [.ref x31.2, .int 4, .ref x34]) (st1 := [.ref x31.2, .int 4, .ref x34]) ⟨hx, hb, hml, hown, hts⟩ (kX6_init l G x35 (x31.2 + 1) x31.2 _ _ h36) (cu_I hts tw_1_99 tw_1_97 tw_1_98 tw_1_3 hdX6_init rfl rfl rfl ⟨(Nat.le_of_ble_eq_true rfl), (Nat.le_of_ble_eq_true rfl)⟩) hK hO hR hS rfl hl.1 rfl (Nat.le_of_ble_eq_true rfl) dX9_init_68 ⟨Nat.le_of_ble_eq_true rfl, Nat.le_of_ble_eq_true rfl⟩ rfl (fun H locs hR hS => ?_)
  obtain ⟨x37, h37, hf⟩ := Option.bind_eq_some_iff.mp hf
  refine a_stR hx hb hK hR hS h37 dX9_init_71 (fun H locs hR hS => ?_)
  refine lv_iinc (v := 5) (lv' := [(1, .int 5), (0, .ref v0)]) hx hb dX9_init_72 hl (k := 0) rfl rfl (by decide) rfl (fun ls hl => ?_)
  refine lv_goto (tgt := 53) hx hb dX9_init_75 (by decide) ?_
  refine lv_iload_n hx hb dX9_init_53 rfl (lv_at hl 0 rfl) ?_
  refine lv_bipush (v := 8) hx hb dX9_init_54 (by decide) ?_
  refine lv_icmp_ge (tgt := 78) hx hb dX9_init_56 (by decide) (fun c38 => ?_) (fun c38 => ?_)
  · exact absurd c38 (by decide)
  refine lv_aload_n hx hb dX9_init_59 rfl (lv_at hl 1 rfl) ?_
  obtain ⟨x39, h39, hf⟩ := Option.bind_eq_some_iff.mp hf
  refine r_gR hx hb hts inX9 hown hK hR rfl 3 (by decide) (hts _ tw_1_135) h39 dX9_init_60 ?_
  refine lv_iload_n hx hb dX9_init_63 rfl (lv_at hl 0 rfl) ?_
  obtain ⟨x40, h40, hf⟩ := Option.bind_eq_some_iff.mp hf
  refine a_new (ci := 1) (fs := [.int 0, .int 0, .int 0, .int 0, .int 0, .null]) hx hb hts inX6 tyX6 tyX6_ok hown (hts _ tw_1_94) (hts _ tw_1_96) (hts _ tw_1_3) hK hR hS rfl (fun j hj => by rcases (show j = 0 ∨ j = 1 ∨ j = 2 ∨ j = 3 ∨ j = 4 ∨ j = 5 by omega) with rfl | rfl | rfl | rfl | rfl | rfl <;> rfl) (Nat.le_of_ble_eq_true rfl) (Nat.le_of_ble_eq_true rfl) dX9_init_64 (fun H hR hS => ?_)
  rw [Option.some.inj h40] at hR hS
  refine lv_dup hx hb dX9_init_67 rfl ?_
  obtain ⟨x41, h41, hf⟩ := Option.bind_eq_some_iff.mp hf
  refine a_callI (As := []) (rest := [.ref x36.2, .int 5, .ref x39]) (st1 := [.ref x36.2, .int 5, .ref x39]) ⟨hx, hb, hml, hown, hts⟩ (kX6_init l G x40 (x36.2 + 1) x36.2 _ _ h41) (cu_I hts tw_1_99 tw_1_97 tw_1_98 tw_1_3 hdX6_init rfl rfl rfl ⟨(Nat.le_of_ble_eq_true rfl), (Nat.le_of_ble_eq_true rfl)⟩) hK hO hR hS rfl hl.1 rfl (Nat.le_of_ble_eq_true rfl) dX9_init_68 ⟨Nat.le_of_ble_eq_true rfl, Nat.le_of_ble_eq_true rfl⟩ rfl (fun H locs hR hS => ?_)
  obtain ⟨x42, h42, hf⟩ := Option.bind_eq_some_iff.mp hf
  refine a_stR hx hb hK hR hS h42 dX9_init_71 (fun H locs hR hS => ?_)
  refine lv_iinc (v := 6) (lv' := [(1, .int 6), (0, .ref v0)]) hx hb dX9_init_72 hl (k := 0) rfl rfl (by decide) rfl (fun ls hl => ?_)
  refine lv_goto (tgt := 53) hx hb dX9_init_75 (by decide) ?_
  refine lv_iload_n hx hb dX9_init_53 rfl (lv_at hl 0 rfl) ?_
  refine lv_bipush (v := 8) hx hb dX9_init_54 (by decide) ?_
  refine lv_icmp_ge (tgt := 78) hx hb dX9_init_56 (by decide) (fun c43 => ?_) (fun c43 => ?_)
  · exact absurd c43 (by decide)
  refine lv_aload_n hx hb dX9_init_59 rfl (lv_at hl 1 rfl) ?_
  obtain ⟨x44, h44, hf⟩ := Option.bind_eq_some_iff.mp hf
  refine r_gR hx hb hts inX9 hown hK hR rfl 3 (by decide) (hts _ tw_1_135) h44 dX9_init_60 ?_
  refine lv_iload_n hx hb dX9_init_63 rfl (lv_at hl 0 rfl) ?_
  obtain ⟨x45, h45, hf⟩ := Option.bind_eq_some_iff.mp hf
  refine a_new (ci := 1) (fs := [.int 0, .int 0, .int 0, .int 0, .int 0, .null]) hx hb hts inX6 tyX6 tyX6_ok hown (hts _ tw_1_94) (hts _ tw_1_96) (hts _ tw_1_3) hK hR hS rfl (fun j hj => by rcases (show j = 0 ∨ j = 1 ∨ j = 2 ∨ j = 3 ∨ j = 4 ∨ j = 5 by omega) with rfl | rfl | rfl | rfl | rfl | rfl <;> rfl) (Nat.le_of_ble_eq_true rfl) (Nat.le_of_ble_eq_true rfl) dX9_init_64 (fun H hR hS => ?_)
  rw [Option.some.inj h45] at hR hS
  refine lv_dup hx hb dX9_init_67 rfl ?_
  obtain ⟨x46, h46, hf⟩ := Option.bind_eq_some_iff.mp hf
  refine a_callI (As := []) (rest := [.ref x41.2, .int 6, .ref x44]) (st1 := [.ref x41.2, .int 6, .ref x44]) ⟨hx, hb, hml, hown, hts⟩ (kX6_init l G x45 (x41.2 + 1) x41.2 _ _ h46) (cu_I hts tw_1_99 tw_1_97 tw_1_98 tw_1_3 hdX6_init rfl rfl rfl ⟨(Nat.le_of_ble_eq_true rfl), (Nat.le_of_ble_eq_true rfl)⟩) hK hO hR hS rfl hl.1 rfl (Nat.le_of_ble_eq_true rfl) dX9_init_68 ⟨Nat.le_of_ble_eq_true rfl, Nat.le_of_ble_eq_true rfl⟩ rfl (fun H locs hR hS => ?_)
  obtain ⟨x47, h47, hf⟩ := Option.bind_eq_some_iff.mp hf
  refine a_stR hx hb hK hR hS h47 dX9_init_71 (fun H locs hR hS => ?_)
  refine lv_iinc (v := 7) (lv' := [(1, .int 7), (0, .ref v0)]) hx hb dX9_init_72 hl (k := 0) rfl rfl (by decide) rfl (fun ls hl => ?_)
  refine lv_goto (tgt := 53) hx hb dX9_init_75 (by decide) ?_
  refine lv_iload_n hx hb dX9_init_53 rfl (lv_at hl 0 rfl) ?_
  refine lv_bipush (v := 8) hx hb dX9_init_54 (by decide) ?_
  refine lv_icmp_ge (tgt := 78) hx hb dX9_init_56 (by decide) (fun c48 => ?_) (fun c48 => ?_)
  · exact absurd c48 (by decide)
  refine lv_aload_n hx hb dX9_init_59 rfl (lv_at hl 1 rfl) ?_
  obtain ⟨x49, h49, hf⟩ := Option.bind_eq_some_iff.mp hf
  refine r_gR hx hb hts inX9 hown hK hR rfl 3 (by decide) (hts _ tw_1_135) h49 dX9_init_60 ?_
  refine lv_iload_n hx hb dX9_init_63 rfl (lv_at hl 0 rfl) ?_
  obtain ⟨x50, h50, hf⟩ := Option.bind_eq_some_iff.mp hf
  refine a_new (ci := 1) (fs := [.int 0, .int 0, .int 0, .int 0, .int 0, .null]) hx hb hts inX6 tyX6 tyX6_ok hown (hts _ tw_1_94) (hts _ tw_1_96) (hts _ tw_1_3) hK hR hS rfl (fun j hj => by rcases (show j = 0 ∨ j = 1 ∨ j = 2 ∨ j = 3 ∨ j = 4 ∨ j = 5 by omega) with rfl | rfl | rfl | rfl | rfl | rfl <;> rfl) (Nat.le_of_ble_eq_true rfl) (Nat.le_of_ble_eq_true rfl) dX9_init_64 (fun H hR hS => ?_)
  rw [Option.some.inj h50] at hR hS
  refine lv_dup hx hb dX9_init_67 rfl ?_
  obtain ⟨x51, h51, hf⟩ := Option.bind_eq_some_iff.mp hf
  refine a_callI (As := []) (rest := [.ref x46.2, .int 7, .ref x49]) (st1 := [.ref x46.2, .int 7, .ref x49]) ⟨hx, hb, hml, hown, hts⟩ (kX6_init l G x50 (x46.2 + 1) x46.2 _ _ h51) (cu_I hts tw_1_99 tw_1_97 tw_1_98 tw_1_3 hdX6_init rfl rfl rfl ⟨(Nat.le_of_ble_eq_true rfl), (Nat.le_of_ble_eq_true rfl)⟩) hK hO hR hS rfl hl.1 rfl (Nat.le_of_ble_eq_true rfl) dX9_init_68 ⟨Nat.le_of_ble_eq_true rfl, Nat.le_of_ble_eq_true rfl⟩ rfl (fun H locs hR hS => ?_)
  obtain ⟨x52, h52, hf⟩ := Option.bind_eq_some_iff.mp hf
  refine a_stR hx hb hK hR hS h52 dX9_init_71 (fun H locs hR hS => ?_)
  refine lv_iinc (v := 8) (lv' := [(1, .int 8), (0, .ref v0)]) hx hb dX9_init_72 hl (k := 0) rfl rfl (by decide) rfl (fun ls hl => ?_)
  refine lv_goto (tgt := 53) hx hb dX9_init_75 (by decide) ?_
  refine lv_iload_n hx hb dX9_init_53 rfl (lv_at hl 0 rfl) ?_
  refine lv_bipush (v := 8) hx hb dX9_init_54 (by decide) ?_
  refine lv_icmp_ge (tgt := 78) hx hb dX9_init_56 (by decide) (fun c53 => ?_) (fun c53 => ?_)
  rotate_left
  · exact absurd (by decide) c53
  exact hret _ _ _ _ _ _ dX9_init_78 hR hS hf
/-! BrickedUpAsBlindModel.<init>()V -/
def fX10_init (ρ : Rho) (z : Nat) (v0 : Nat) : Option (Rho × Nat) :=
    (some (rset ρ z (iC 49 (fun _ => 0)))).bind fun x1 =>
    (ptV x1 3 v0 0 (.ref z)).bind fun x2 =>
    (some (rset x2 (z + 1) (iC 49 (fun _ => 0)))).bind fun x3 =>
    (ptV x3 3 v0 1 (.ref (z + 1))).bind fun x4 =>
    (some (rset x4 ((z + 1) + 1) (iC 49 (fun _ => 0)))).bind fun x5 =>
    (ptV x5 3 v0 2 (.ref ((z + 1) + 1))).bind fun x6 =>
    (some (rset x6 (((z + 1) + 1) + 1) (iC 49 (fun _ => 0)))).bind fun x7 =>
    (ptV x7 3 v0 3 (.ref (((z + 1) + 1) + 1))).bind fun x8 =>
    (some (rset x8 ((((z + 1) + 1) + 1) + 1) (iC 4 (fun _ => 0)))).bind fun x9 =>
    (ptV x9 3 v0 8 (.ref ((((z + 1) + 1) + 1) + 1))).bind fun x10 =>
    (some (rset x10 (((((z + 1) + 1) + 1) + 1) + 1) (iC 8 (fun _ => 0)))).bind fun x11 =>
    (ptV x11 3 v0 9 (.ref (((((z + 1) + 1) + 1) + 1) + 1))).bind fun x12 =>
    (some (rset x12 ((((((z + 1) + 1) + 1) + 1) + 1) + 1) (iC 8 (fun _ => 0)))).bind fun x13 =>
    (ptV x13 3 v0 12 (.ref ((((((z + 1) + 1) + 1) + 1) + 1) + 1))).bind fun x14 =>
    (some (rset x14 (((((((z + 1) + 1) + 1) + 1) + 1) + 1) + 1) (iC 8 (fun _ => 0)))).bind fun x15 =>
    (ptV x15 3 v0 13 (.ref (((((((z + 1) + 1) + 1) + 1) + 1) + 1) + 1))).bind fun x16 =>
    (some (rset x16 ((((((((z + 1) + 1) + 1) + 1) + 1) + 1) + 1) + 1) (iC 8 (fun _ => 0)))).bind fun x17 =>
    (ptV x17 3 v0 14 (.ref ((((((((z + 1) + 1) + 1) + 1) + 1) + 1) + 1) + 1))).bind fun x18 =>
    (some (rset x18 (((((((((z + 1) + 1) + 1) + 1) + 1) + 1) + 1) + 1) + 1) (iC 8 (fun _ => 0)))).bind fun x19 =>
    (ptV x19 3 v0 15 (.ref (((((((((z + 1) + 1) + 1) + 1) + 1) + 1) + 1) + 1) + 1))).bind fun x20 =>
    (some (rset x20 ((((((((((z + 1) + 1) + 1) + 1) + 1) + 1) + 1) + 1) + 1) + 1) (iC 8 (fun _ => 0)))).bind fun x21 =>
    (ptV x21 3 v0 16 (.ref ((((((((((z + 1) + 1) + 1) + 1) + 1) + 1) + 1) + 1) + 1) + 1))).bind fun x22 =>
    (some (rset x22 (((((((((((z + 1) + 1) + 1) + 1) + 1) + 1) + 1) + 1) + 1) + 1) + 1) (iC 800 (fun _ => 0)))).bind fun x23 =>
    (ptV x23 3 v0 17 (.ref (((((((((((z + 1) + 1) + 1) + 1) + 1) + 1) + 1) + 1) + 1) + 1) + 1))).bind fun x24 =>
    (gR x24 3 v0 0).bind fun x25 =>
    (stI x24 x25 1 12).bind fun x26 =>
    (gR x26 3 v0 0).bind fun x27 =>
    (stI x26 x27 4 1).bind fun x28 =>
    some (x28, ((((((((((((z + 1) + 1) + 1) + 1) + 1) + 1) + 1) + 1) + 1) + 1) + 1) + 1))
abbrev rX10_init : Room := { frames := 1, cells := 12, slots := 1048, locals := 64 }
theorem hdX10_init : hdP yX10_init 0 := by unfold hdP; decide +kernel
set_option maxHeartbeats 4000000 in
set_option maxRecDepth 100000 in
theorem kX10_init (l : Launch) (G : GD) (ρ : Rho) (z : Nat) (v0 : Nat) (ρ1 : Rho) (z1 : Nat) (hf : fX10_init ρ z v0 = some (ρ1, z1)) : AM l G yX10_init (Cond.code yX10_init cX10_init 1 none :: LW) rX10_init ρ z [.ref v0] (none) ρ1 z1 12 1048 := by
  obtain ⟨r, hr⟩ : ∃ r, r = (ρ1, z1) := ⟨_, rfl⟩
  rw [← hr] at hf
  refine AM.ofV (own := RX10) (r := r) hr (by decide) rfl (Nat.le_of_ble_eq_true rfl) ?_
  intro p e s m args below meth c H locs Q hx hb hml hown hts hin0 hK hO hR hS hret ls hl
  obtain ⟨ρ0, hρ0⟩ : ∃ y, y = ρ := ⟨_, rfl⟩
  rw [← hρ0] at hret
  replace hS : AS ρ0 s.heap ρ z H locs := hρ0 ▸ hS
  replace hl : lv_has ls 1 [(0, .ref v0)] := hl
  unfold fX10_init at hf
  refine lv_aload_n hx hb dX10_init_0 rfl (lv_at hl 0 rfl) ?_
  refine W.objInit hx hb hown (hts _ tw_4_109) (hts _ tw_1_27) (hts _ tw_1_28) rfl (by rw [hml]; exact hl.1) rfl dX10_init_1 (Nat.le_of_ble_eq_true rfl) (Nat.le_of_ble_eq_true rfl) ?_
  show W p l e rX10_init s m args below meth c H locs 0 0 Q (F0 m 4 ls [])
  refine lv_aload_n hx hb dX10_init_4 rfl (lv_at hl 0 rfl) ?_
  refine lv_bipush (v := 49) hx hb dX10_init_5 (by decide) ?_
  obtain ⟨x1, h1, hf⟩ := Option.bind_eq_some_iff.mp hf
  refine a_newI (N' := 49) hx hb (hts _ (lw_t1 (List.mem_of_getElem? (i := 93) rfl) rfl)) hK hR hS (by decide) (by decide) (Nat.le_of_ble_eq_true rfl) (Nat.le_of_ble_eq_true rfl) (Nat.le_of_ble_eq_true rfl) dX10_init_7 (fun H hR hS => ?_)
  rw [Option.some.inj h1] at hR hS
  obtain ⟨x2, h2, hf⟩ := Option.bind_eq_some_iff.mp hf
  refine a_ptF hx hb hts inX10 tyX10 tyX10_ok nmX10 hown hK hR hS rfl 0 (by decide) (hts _ tw_4_110) rfl (hin0.trans rfl) rfl (ty := tyX10 0) (tyX10_ok 0 (by decide)) rfl rfl h2 dX10_init_9 (fun H locs hR hS => ?_)
  refine lv_aload_n hx hb dX10_init_12 rfl (lv_at hl 0 rfl) ?_
  refine lv_bipush (v := 49) hx hb dX10_init_13 (by decide) ?_
  obtain ⟨x3, h3, hf⟩ := Option.bind_eq_some_iff.mp hf
  refine a_newI (N' := 49) hx hb (hts _ (lw_t1 (List.mem_of_getElem? (i := 93) rfl) rfl)) hK hR hS (by decide) (by decide) (Nat.le_of_ble_eq_true rfl) (Nat.le_of_ble_eq_true rfl) (Nat.le_of_ble_eq_true rfl) dX10_init_15 (fun H hR hS => ?_)
  rw [Option.some.inj h3] at hR hS
  obtain ⟨x4, h4, hf⟩ := Option.bind_eq_some_iff.mp hf
  refine a_ptF hx hb hts inX10 tyX10 tyX10_ok nmX10 hown hK hR hS rfl 1 (by decide) (hts _ tw_4_111) rfl (hin0.trans rfl) rfl (ty := tyX10 1) (tyX10_ok 1 (by decide)) rfl rfl h4 dX10_init_17 (fun H locs hR hS => ?_)
  refine lv_aload_n hx hb dX10_init_20 rfl (lv_at hl 0 rfl) ?_
  refine lv_bipush (v := 49) hx hb dX10_init_21 (by decide) ?_
  obtain ⟨x5, h5, hf⟩ := Option.bind_eq_some_iff.mp hf
  refine a_newI (N' := 49) hx hb (hts _ (lw_t1 (List.mem_of_getElem? (i := 93) rfl) rfl)) hK hR hS (by decide) (by decide) (Nat.le_of_ble_eq_true rfl) (Nat.le_of_ble_eq_true rfl) (Nat.le_of_ble_eq_true rfl) dX10_init_23 (fun H hR hS => ?_)
  rw [Option.some.inj h5] at hR hS
  obtain ⟨x6, h6, hf⟩ := Option.bind_eq_some_iff.mp hf
  refine a_ptF hx hb hts inX10 tyX10 tyX10_ok nmX10 hown hK hR hS rfl 2 (by decide) (hts _ tw_4_112) rfl (hin0.trans rfl) rfl (ty := tyX10 2) (tyX10_ok 2 (by decide)) rfl rfl h6 dX10_init_25 (fun H locs hR hS => ?_)
  refine lv_aload_n hx hb dX10_init_28 rfl (lv_at hl 0 rfl) ?_
  refine lv_bipush (v := 49) hx hb dX10_init_29 (by decide) ?_
  obtain ⟨x7, h7, hf⟩ := Option.bind_eq_some_iff.mp hf
  refine a_newI (N' := 49) hx hb (hts _ (lw_t1 (List.mem_of_getElem? (i := 93) rfl) rfl)) hK hR hS (by decide) (by decide) (Nat.le_of_ble_eq_true rfl) (Nat.le_of_ble_eq_true rfl) (Nat.le_of_ble_eq_true rfl) dX10_init_31 (fun H hR hS => ?_)
  rw [Option.some.inj h7] at hR hS
  obtain ⟨x8, h8, hf⟩ := Option.bind_eq_some_iff.mp hf
  refine a_ptF hx hb hts inX10 tyX10 tyX10_ok nmX10 hown hK hR hS rfl 3 (by decide) (hts _ tw_4_113) rfl (hin0.trans rfl) rfl (ty := tyX10 3) (tyX10_ok 3 (by decide)) rfl rfl h8 dX10_init_33 (fun H locs hR hS => ?_)
  refine lv_aload_n hx hb dX10_init_36 rfl (lv_at hl 0 rfl) ?_
  refine lv_iconst (v := 4) hx hb dX10_init_37 (by decide) ?_
  obtain ⟨x9, h9, hf⟩ := Option.bind_eq_some_iff.mp hf
  refine a_newI (N' := 4) hx hb (hts _ (lw_t1 (List.mem_of_getElem? (i := 93) rfl) rfl)) hK hR hS (by decide) (by decide) (Nat.le_of_ble_eq_true rfl) (Nat.le_of_ble_eq_true rfl) (Nat.le_of_ble_eq_true rfl) dX10_init_38 (fun H hR hS => ?_)
  rw [Option.some.inj h9] at hR hS
  obtain ⟨x10, h10, hf⟩ := Option.bind_eq_some_iff.mp hf
  refine a_ptF hx hb hts inX10 tyX10 tyX10_ok nmX10 hown hK hR hS rfl 8 (by decide) (hts _ tw_4_118) rfl (hin0.trans rfl) rfl (ty := tyX10 8) (tyX10_ok 8 (by decide)) rfl rfl h10 dX10_init_40 (fun H locs hR hS => ?_)
  refine lv_aload_n hx hb dX10_init_43 rfl (lv_at hl 0 rfl) ?_
  refine lv_bipush (v := 8) hx hb dX10_init_44 (by decide) ?_
  obtain ⟨x11, h11, hf⟩ := Option.bind_eq_some_iff.mp hf
  refine a_newI (N' := 8) hx hb (hts _ (lw_t1 (List.mem_of_getElem? (i := 93) rfl) rfl)) hK hR hS (by decide) (by decide) (Nat.le_of_ble_eq_true rfl) (Nat.le_of_ble_eq_true rfl) (Nat.le_of_ble_eq_true rfl) dX10_init_46 (fun H hR hS => ?_)
  rw [Option.some.inj h11] at hR hS
  obtain ⟨x12, h12, hf⟩ := Option.bind_eq_some_iff.mp hf
  refine a_ptF hx hb hts inX10 tyX10 tyX10_ok nmX10 hown hK hR hS rfl 9 (by decide) (hts _ tw_4_119) rfl (hin0.trans rfl) rfl (ty := tyX10 9) (tyX10_ok 9 (by decide)) rfl rfl h12 dX10_init_48 (fun H locs hR hS => ?_)
  refine lv_aload_n hx hb dX10_init_51 rfl (lv_at hl 0 rfl) ?_
  refine lv_bipush (v := 8) hx hb dX10_init_52 (by decide) ?_
  obtain ⟨x13, h13, hf⟩ := Option.bind_eq_some_iff.mp hf
  refine a_newI (N' := 8) hx hb (hts _ (lw_t1 (List.mem_of_getElem? (i := 93) rfl) rfl)) hK hR hS (by decide) (by decide) (Nat.le_of_ble_eq_true rfl) (Nat.le_of_ble_eq_true rfl) (Nat.le_of_ble_eq_true rfl) dX10_init_54 (fun H hR hS => ?_)
  rw [Option.some.inj h13] at hR hS
  obtain ⟨x14, h14, hf⟩ := Option.bind_eq_some_iff.mp hf
  refine a_ptF hx hb hts inX10 tyX10 tyX10_ok nmX10 hown hK hR hS rfl 12 (by decide) (hts _ tw_4_122) rfl (hin0.trans rfl) rfl (ty := tyX10 12) (tyX10_ok 12 (by decide)) rfl rfl h14 dX10_init_56 (fun H locs hR hS => ?_)
  refine lv_aload_n hx hb dX10_init_59 rfl (lv_at hl 0 rfl) ?_
  refine lv_bipush (v := 8) hx hb dX10_init_60 (by decide) ?_
  obtain ⟨x15, h15, hf⟩ := Option.bind_eq_some_iff.mp hf
  refine a_newI (N' := 8) hx hb (hts _ (lw_t1 (List.mem_of_getElem? (i := 93) rfl) rfl)) hK hR hS (by decide) (by decide) (Nat.le_of_ble_eq_true rfl) (Nat.le_of_ble_eq_true rfl) (Nat.le_of_ble_eq_true rfl) dX10_init_62 (fun H hR hS => ?_)
  rw [Option.some.inj h15] at hR hS
  obtain ⟨x16, h16, hf⟩ := Option.bind_eq_some_iff.mp hf
  refine a_ptF hx hb hts inX10 tyX10 tyX10_ok nmX10 hown hK hR hS rfl 13 (by decide) (hts _ tw_4_123) rfl (hin0.trans rfl) rfl (ty := tyX10 13) (tyX10_ok 13 (by decide)) rfl rfl h16 dX10_init_64 (fun H locs hR hS => ?_)
  refine lv_aload_n hx hb dX10_init_67 rfl (lv_at hl 0 rfl) ?_
  refine lv_bipush (v := 8) hx hb dX10_init_68 (by decide) ?_
  obtain ⟨x17, h17, hf⟩ := Option.bind_eq_some_iff.mp hf
  refine a_newI (N' := 8) hx hb (hts _ (lw_t1 (List.mem_of_getElem? (i := 93) rfl) rfl)) hK hR hS (by decide) (by decide) (Nat.le_of_ble_eq_true rfl) (Nat.le_of_ble_eq_true rfl) (Nat.le_of_ble_eq_true rfl) dX10_init_70 (fun H hR hS => ?_)
  rw [Option.some.inj h17] at hR hS
  obtain ⟨x18, h18, hf⟩ := Option.bind_eq_some_iff.mp hf
  refine a_ptF hx hb hts inX10 tyX10 tyX10_ok nmX10 hown hK hR hS rfl 14 (by decide) (hts _ tw_4_124) rfl (hin0.trans rfl) rfl (ty := tyX10 14) (tyX10_ok 14 (by decide)) rfl rfl h18 dX10_init_72 (fun H locs hR hS => ?_)
  refine lv_aload_n hx hb dX10_init_75 rfl (lv_at hl 0 rfl) ?_
  refine lv_bipush (v := 8) hx hb dX10_init_76 (by decide) ?_
  obtain ⟨x19, h19, hf⟩ := Option.bind_eq_some_iff.mp hf
  refine a_newI (N' := 8) hx hb (hts _ (lw_t1 (List.mem_of_getElem? (i := 93) rfl) rfl)) hK hR hS (by decide) (by decide) (Nat.le_of_ble_eq_true rfl) (Nat.le_of_ble_eq_true rfl) (Nat.le_of_ble_eq_true rfl) dX10_init_78 (fun H hR hS => ?_)
  rw [Option.some.inj h19] at hR hS
  obtain ⟨x20, h20, hf⟩ := Option.bind_eq_some_iff.mp hf
  refine a_ptF hx hb hts inX10 tyX10 tyX10_ok nmX10 hown hK hR hS rfl 15 (by decide) (hts _ tw_4_125) rfl (hin0.trans rfl) rfl (ty := tyX10 15) (tyX10_ok 15 (by decide)) rfl rfl h20 dX10_init_80 (fun H locs hR hS => ?_)
  refine lv_aload_n hx hb dX10_init_83 rfl (lv_at hl 0 rfl) ?_
  refine lv_bipush (v := 8) hx hb dX10_init_84 (by decide) ?_
  obtain ⟨x21, h21, hf⟩ := Option.bind_eq_some_iff.mp hf
  refine a_newI (N' := 8) hx hb (hts _ (lw_t1 (List.mem_of_getElem? (i := 93) rfl) rfl)) hK hR hS (by decide) (by decide) (Nat.le_of_ble_eq_true rfl) (Nat.le_of_ble_eq_true rfl) (Nat.le_of_ble_eq_true rfl) dX10_init_86 (fun H hR hS => ?_)
  rw [Option.some.inj h21] at hR hS
  obtain ⟨x22, h22, hf⟩ := Option.bind_eq_some_iff.mp hf
  refine a_ptF hx hb hts inX10 tyX10 tyX10_ok nmX10 hown hK hR hS rfl 16 (by decide) (hts _ tw_4_126) rfl (hin0.trans rfl) rfl (ty := tyX10 16) (tyX10_ok 16 (by decide)) rfl rfl h22 dX10_init_88 (fun H locs hR hS => ?_)
  refine lv_aload_n hx hb dX10_init_91 rfl (lv_at hl 0 rfl) ?_
  refine lv_sipush (v := 800) hx hb dX10_init_92 (by decide) ?_
  obtain ⟨x23, h23, hf⟩ := Option.bind_eq_some_iff.mp hf
  refine a_newI (N' := 800) hx hb (hts _ (lw_t1 (List.mem_of_getElem? (i := 93) rfl) rfl)) hK hR hS (by decide) (by decide) (Nat.le_of_ble_eq_true rfl) (Nat.le_of_ble_eq_true rfl) (Nat.le_of_ble_eq_true rfl) dX10_init_95 (fun H hR hS => ?_)
  rw [Option.some.inj h23] at hR hS
  obtain ⟨x24, h24, hf⟩ := Option.bind_eq_some_iff.mp hf
  refine a_ptF hx hb hts inX10 tyX10 tyX10_ok nmX10 hown hK hR hS rfl 17 (by decide) (hts _ tw_4_127) rfl (hin0.trans rfl) rfl (ty := tyX10 17) (tyX10_ok 17 (by decide)) rfl rfl h24 dX10_init_97 (fun H locs hR hS => ?_)
  refine lv_aload_n hx hb dX10_init_100 rfl (lv_at hl 0 rfl) ?_
  obtain ⟨x25, h25, hf⟩ := Option.bind_eq_some_iff.mp hf
  refine r_gR hx hb hts inX10 hown hK hR rfl 0 (by decide) (hts _ tw_4_110) h25 dX10_init_101 ?_
  refine lv_iconst (v := 1) hx hb dX10_init_104 (by decide) ?_
  refine lv_bipush (v := 12) hx hb dX10_init_105 (by decide) ?_
  obtain ⟨x26, h26, hf⟩ := Option.bind_eq_some_iff.mp hf
  refine a_stI hx hb hK hR hS h26 dX10_init_107 (fun H locs hR hS => ?_)
  refine lv_aload_n hx hb dX10_init_108 rfl (lv_at hl 0 rfl) ?_
  obtain ⟨x27, h27, hf⟩ := Option.bind_eq_some_iff.mp hf
  refine r_gR hx hb hts inX10 hown hK hR rfl 0 (by decide) (hts _ tw_4_110) h27 dX10_init_109 ?_
  refine lv_iconst (v := 4) hx hb dX10_init_112 (by decide) ?_
  refine lv_iconst (v := 1) hx hb dX10_init_113 (by decide) ?_
  obtain ⟨x28, h28, hf⟩ := Option.bind_eq_some_iff.mp hf
  refine a_stI hx hb hK hR hS h28 dX10_init_114 (fun H locs hR hS => ?_)
  exact hret _ _ _ _ _ _ dX10_init_115 hR hS hf
/-! BrickedUpAsBlind.Watch.movingHours(LBrickedUpAsBlind$House;)[I -/
def fX8_movingHours_40 (k7 : Rho → Nat → Nat → Nat → Int32 → Option (Nat × Rho × Nat)) (ρ : Rho) (z : Nat) (v0 : Nat) (v1 : Nat) (v2 : Int32) (t0 : Int32) (t1 : Int32) (t2 : Nat) : Option (Nat × Rho × Nat) :=
    (stI ρ t2 t1 t0).bind fun x1 =>
    k7 x1 z v0 v1 (v2 + 1)
def fX8_movingHours_31 (k7 : Rho → Nat → Nat → Nat → Int32 → Option (Nat × Rho × Nat)) (ρ : Rho) (z : Nat) (v0 : Nat) (v1 : Nat) (v2 : Int32) (t0 : Int32) (t1 : Nat) : Option (Nat × Rho × Nat) :=
    fX8_movingHours_40 k7 ρ z v0 v1 v2 (-1) t0 t1
def fX8_movingHours_7 : Nat → Rho → Nat → Nat → Nat → Int32 → Option (Nat × Rho × Nat)
  | 0, _, _, _, _, _ => none
  | n + 1, ρ, z, v0, v1, v2 =>
    if (8 : Int32) ≤ v2 then (some (v1, ρ, z))
    else ((ckO ρ 0 v0).bind fun x3 =>
    (fX0_isWindow ρ v0 v2).bind fun x4 =>
    if x4 = 0 then (fX8_movingHours_31 (fX8_movingHours_7 n) ρ z v0 v1 v2 v2 v1)
    else ((ckO ρ 0 v0).bind fun x6 =>
    (fX0_isStopped ρ v0 v2).bind fun x7 =>
    if x7 = 0 then ((fX8_movingHoursOf ρ v0 v2).bind fun x9 =>
    fX8_movingHours_40 (fX8_movingHours_7 n) ρ z v0 v1 v2 x9 v2 v1)
    else (fX8_movingHours_31 (fX8_movingHours_7 n) ρ z v0 v1 v2 v2 v1)))
def fX8_movingHours (ρ : Rho) (z : Nat) (v0 : Nat) : Option (Nat × Rho × Nat) :=
    (some (rset ρ z (iC 8 (fun _ => 0)))).bind fun x10 =>
    fX8_movingHours_7 FU x10 (z + 1) v0 z 0
abbrev rX8_movingHours : Room := { frames := 3, cells := 1, slots := 8, locals := 68 }
theorem hdX8_movingHours : hdP yX8_movingHours 1 := by unfold hdP; decide +kernel
set_option maxHeartbeats 4000000 in
set_option maxRecDepth 100000 in
theorem kX8_movingHours (l : Launch) (G : GD) (ρ : Rho) (z : Nat) (v0 : Nat) (r0 : Nat) (ρ1 : Rho) (z1 : Nat) (hf : fX8_movingHours ρ z v0 = some (r0, ρ1, z1)) : AM l G yX8_movingHours (Cond.code yX8_movingHours cX8_movingHours 3 (some (.array .int)) :: LW) rX8_movingHours ρ z [.ref v0] (some (.ref r0)) ρ1 z1 1 8 := by
  obtain ⟨r, hr⟩ : ∃ r, r = (r0, ρ1, z1) := ⟨_, rfl⟩
  rw [← hr] at hf
  refine AM.ofR (own := RX8) (r := r) hr (by decide) rfl (Nat.le_of_ble_eq_true rfl) ?_
  intro p e s m args below meth c H locs Q hx hb hml hown hts hin0 hK hO hR hS hret ls hl
  obtain ⟨ρ0, hρ0⟩ : ∃ y, y = ρ := ⟨_, rfl⟩
  rw [← hρ0] at hret
  replace hS : AS ρ0 s.heap ρ z H locs := hρ0 ▸ hS
  replace hl : lv_has ls 3 [(0, .ref v0)] := hl
  have J40 : ∀ (k7 : Rho → Nat → Nat → Nat → Int32 → Option (Nat × Rho × Nat)) (_ : ∀ (ρ : Rho) (z : Nat) (v0 : Nat) (v1 : Nat) (v2 : Int32) (H : Heap) (locs : List Loc) (ls : Array Slot), k7 ρ z v0 v1 v2 = some r → lv_has ls 3 [(0, .ref v0), (1, .ref v1), (2, .int v2)] → RW G ρ H → AS ρ0 s.heap ρ z H locs → W p l e rX8_movingHours s m args below meth c H locs 1 8 Q (F0 m 7 ls [])), ∀ (ρ : Rho) (z : Nat) (v0 : Nat) (v1 : Nat) (v2 : Int32) (t0 : Int32) (t1 : Int32) (t2 : Nat) (H : Heap) (locs : List Loc) (ls : Array Slot), fX8_movingHours_40 k7 ρ z v0 v1 v2 t0 t1 t2 = some r → lv_has ls 3 [(0, .ref v0), (1, .ref v1), (2, .int v2)] → RW G ρ H → AS ρ0 s.heap ρ z H locs → W p l e rX8_movingHours s m args below meth c H locs 1 8 Q (F0 m 40 ls [.int t0, .int t1, .ref t2]) := by
    intro k7 hk7 ρ z v0 v1 v2 t0 t1 t2 H locs ls hf hl hR hS
    rw [fX8_movingHours_40] at hf
    obtain ⟨x1, h1, hf⟩ := Option.bind_eq_some_iff.mp hf
    refine a_stI hx hb hK hR hS h1 dX8_movingHours_40 (fun H locs hR hS => ?_)
    refine lv_iinc (v := (v2 + 1)) (lv' := [(2, .int (v2 + 1)), (0, .ref v0), (1, .ref v1)]) hx hb dX8_movingHours_41 hl (k := 2) rfl rfl (by decide) rfl (fun ls hl => ?_)
    refine lv_goto (tgt := 7) hx hb dX8_movingHours_44 (by decide) ?_
    exact hk7 x1 z v0 v1 (v2 + 1) H locs ls hf (lv_sub hl [1, 2, 0] rfl) hR hS
  have J31 : ∀ (k7 : Rho → Nat → Nat → Nat → Int32 → Option (Nat × Rho × Nat)) (_ : ∀ (ρ : Rho) (z : Nat) (v0 : Nat) (v1 : Nat) (v2 : Int32) (H : Heap) (locs : List Loc) (ls : Array Slot), k7 ρ z v0 v1 v2 = some r → lv_has ls 3 [(0, .ref v0), (1, .ref v1), (2, .int v2)] → RW G ρ H → AS ρ0 s.heap ρ z H locs → W p l e rX8_movingHours s m args below meth c H locs 1 8 Q (F0 m 7 ls [])), ∀ (ρ : Rho) (z : Nat) (v0 : Nat) (v1 : Nat) (v2 : Int32) (t0 : Int32) (t1 : Nat) (H : Heap) (locs : List Loc) (ls : Array Slot), fX8_movingHours_31 k7 ρ z v0 v1 v2 t0 t1 = some r → lv_has ls 3 [(0, .ref v0), (1, .ref v1), (2, .int v2)] → RW G ρ H → AS ρ0 s.heap ρ z H locs → W p l e rX8_movingHours s m args below meth c H locs 1 8 Q (F0 m 31 ls [.int t0, .ref t1]) := by
    intro k7 hk7 ρ z v0 v1 v2 t0 t1 H locs ls hf hl hR hS
    rw [fX8_movingHours_31] at hf
    refine lv_iconst (v := (-1)) hx hb dX8_movingHours_31 (by decide) ?_
    refine lv_goto (tgt := 40) hx hb dX8_movingHours_32 (by decide) ?_
    exact J40 _ hk7 ρ z v0 v1 v2 (-1) t0 t1 H locs ls hf (lv_sub hl [0, 1, 2] rfl) hR hS
  have L7 : ∀ (n : Nat) (ρ : Rho) (z : Nat) (v0 : Nat) (v1 : Nat) (v2 : Int32) (H : Heap) (locs : List Loc) (ls : Array Slot), fX8_movingHours_7 n ρ z v0 v1 v2 = some r → lv_has ls 3 [(0, .ref v0), (1, .ref v1), (2, .int v2)] → RW G ρ H → AS ρ0 s.heap ρ z H locs → W p l e rX8_movingHours s m args below meth c H locs 1 8 Q (F0 m 7 ls []) := by
    intro n
    induction n with
    | zero =>
      intro ρ z v0 v1 v2 H locs ls hf
      rw [fX8_movingHours_7] at hf
      cases hf
    | succ n ih =>
      intro ρ z v0 v1 v2 H locs ls hf hl hR hS
      rw [fX8_movingHours_7] at hf
      refine lv_iload_n hx hb dX8_movingHours_7 rfl (lv_at hl 2 rfl) ?_
      refine lv_bipush (v := 8) hx hb dX8_movingHours_8 (by decide) ?_
      refine lv_icmp_ge (tgt := 47) hx hb dX8_movingHours_10 (by decide) (fun c2 => ?_) (fun c2 => ?_)
      · replace hf := (if_pos c2).symm.trans hf
        refine lv_aload_n hx hb dX8_movingHours_47 rfl (lv_at hl 1 rfl) ?_
        exact hret _ _ _ _ _ _ _ dX8_movingHours_48 hR hS hf
      · replace hf := (if_neg c2).symm.trans hf
        refine lv_aload_n hx hb dX8_movingHours_13 rfl (lv_at hl 1 rfl) ?_
        refine lv_iload_n hx hb dX8_movingHours_14 rfl (lv_at hl 2 rfl) ?_
        refine lv_aload_n hx hb dX8_movingHours_15 rfl (lv_at hl 0 rfl) ?_
        refine lv_iload_n hx hb dX8_movingHours_16 rfl (lv_at hl 2 rfl) ?_
        obtain ⟨x3, h3, hf⟩ := Option.bind_eq_some_iff.mp hf
        obtain ⟨x4, h4, hf⟩ := Option.bind_eq_some_iff.mp hf
        refine r_callV (As := [.int v2]) (rest := [.int v2, .ref v1]) (st1 := [.int x4, .int v2, .ref v1]) ⟨hx, hb, hml, hown, hts⟩ (kX0_isWindow l G ρ v0 v2 _ h4) (cu_V hts tw_1_221 tw_2_215 tw_1_219 tw_1_220 tw_1_2 hdX0_isWindow rfl rfl ⟨(Nat.le_of_ble_eq_true rfl), (Nat.le_of_ble_eq_true rfl)⟩) hK hR rfl h3 rfl hl.1 rfl (Nat.le_of_ble_eq_true rfl) dX8_movingHours_17 ⟨Nat.le_of_ble_eq_true rfl, Nat.le_of_ble_eq_true rfl⟩ rfl ?_
        refine lv_if_eq (tgt := 31) hx hb dX8_movingHours_20 (by decide) (fun c5 => ?_) (fun c5 => ?_)
        · replace hf := (if_pos c5).symm.trans hf
          exact J31 _ ih ρ z v0 v1 v2 v2 v1 H locs ls hf (lv_sub hl [0, 1, 2] rfl) hR hS
        · replace hf := (if_neg c5).symm.trans hf
          refine lv_aload_n hx hb dX8_movingHours_23 rfl (lv_at hl 0 rfl) ?_
          refine lv_iload_n hx hb dX8_movingHours_24 rfl (lv_at hl 2 rfl) ?_
          obtain ⟨x6, h6, hf⟩ := Option.bind_eq_some_iff.mp hf
          obtain ⟨x7, h7, hf⟩ := Option.bind_eq_some_iff.mp hf
          refine r_callV (As := [.int v2]) (rest := [.int v2, .ref v1]) (st1 := [.int x7, .int v2, .ref v1]) ⟨hx, hb, hml, hown, hts⟩ (kX0_isStopped l G ρ v0 v2 _ h7) (cu_V hts tw_1_225 tw_2_216 tw_1_223 tw_1_224 tw_1_2 hdX0_isStopped rfl rfl ⟨(Nat.le_of_ble_eq_true rfl), (Nat.le_of_ble_eq_true rfl)⟩) hK hR rfl h6 rfl hl.1 rfl (Nat.le_of_ble_eq_true rfl) dX8_movingHours_25 ⟨Nat.le_of_ble_eq_true rfl, Nat.le_of_ble_eq_true rfl⟩ rfl ?_
          refine lv_if_eq (tgt := 35) hx hb dX8_movingHours_28 (by decide) (fun c8 => ?_) (fun c8 => ?_)
          · replace hf := (if_pos c8).symm.trans hf
            refine lv_aload_n hx hb dX8_movingHours_35 rfl (lv_at hl 0 rfl) ?_
            refine lv_iload_n hx hb dX8_movingHours_36 rfl (lv_at hl 2 rfl) ?_
            obtain ⟨x9, h9, hf⟩ := Option.bind_eq_some_iff.mp hf
            refine r_callS (As := [.ref v0, .int v2]) (rest := [.int v2, .ref v1]) (st1 := [.int x9, .int v2, .ref v1]) ⟨hx, hb, hml, hown, hts⟩ (kX8_movingHoursOf l G ρ v0 v2 _ h9) (cu_S hts tw_2_219 tw_2_217 tw_2_218 tw_1_12 hdX8_movingHoursOf rfl rfl ⟨(Nat.le_of_ble_eq_true rfl), (Nat.le_of_ble_eq_true rfl)⟩) hK hR rfl hl.1 rfl (Nat.le_of_ble_eq_true rfl) dX8_movingHours_37 ⟨Nat.le_of_ble_eq_true rfl, Nat.le_of_ble_eq_true rfl⟩ rfl ?_
            exact J40 _ ih ρ z v0 v1 v2 x9 v2 v1 H locs ls hf (lv_sub hl [0, 1, 2] rfl) hR hS
          · replace hf := (if_neg c8).symm.trans hf
            exact J31 _ ih ρ z v0 v1 v2 v2 v1 H locs ls hf (lv_sub hl [0, 1, 2] rfl) hR hS
  unfold fX8_movingHours at hf
  refine lv_bipush (v := 8) hx hb dX8_movingHours_0 (by decide) ?_
  obtain ⟨x10, h10, hf⟩ := Option.bind_eq_some_iff.mp hf
  refine a_newI (N' := 8) hx hb (hts _ (lw_t1 (List.mem_of_getElem? (i := 93) rfl) rfl)) hK hR hS (by decide) (by decide) (Nat.le_of_ble_eq_true rfl) (Nat.le_of_ble_eq_true rfl) (Nat.le_of_ble_eq_true rfl) dX8_movingHours_2 (fun H hR hS => ?_)
  rw [Option.some.inj h10] at hR hS
  refine lv_astore_n (lv' := [(1, .ref z), (0, .ref v0)]) hx hb dX8_movingHours_4 rfl hl (by decide) rfl (fun ls hl => ?_)
  refine lv_iconst (v := 0) hx hb dX8_movingHours_5 (by decide) ?_
  refine lv_istore_n (lv' := [(2, .int 0), (1, .ref z), (0, .ref v0)]) hx hb dX8_movingHours_6 rfl hl (by decide) rfl (fun ls hl => ?_)
  exact L7 FU x10 (z + 1) v0 z 0 H locs ls hf (lv_sub hl [2, 1, 0] rfl) hR hS
/-! BrickedUpAsBlind.Watch.fewestLooks(LBrickedUpAsBlind$House;)I -/
def fX8_fewestLooks_53 (k45 : Rho → Nat → Nat → Int32 → Option (Int32 × Rho × Nat)) : Nat → Rho → Nat → Nat → Int32 → Int32 → Option (Int32 × Rho × Nat)
  | 0, _, _, _, _, _ => none
  | n + 1, ρ, z, v1, v2, v3 =>
    if v2 ≤ v3 then (k45 ρ z v1 (v2 + 1))
    else ((fX8_areAllUnlike ρ v1 (((1 : Int32) <<< (v2 &&& 31)) ||| ((1 : Int32) <<< (v3 &&& 31)))).bind fun x2 =>
    if x2 = 0 then (fX8_fewestLooks_53 k45 n ρ z v1 v2 (v3 + 1))
    else (some ((((1 : Int32) <<< (v2 &&& 31)) ||| ((1 : Int32) <<< (v3 &&& 31))), ρ, z)))
def fX8_fewestLooks_45 : Nat → Rho → Nat → Nat → Int32 → Option (Int32 × Rho × Nat)
  | 0, _, _, _, _ => none
  | n + 1, ρ, z, v1, v2 =>
    if (24 : Int32) ≤ v2 then ((fX8_leastOfThreeLooks ρ v1).bind fun x5 =>
    some (x5, ρ, z))
    else (fX8_fewestLooks_53 (fX8_fewestLooks_45 n) FU ρ z v1 v2 0)
def fX8_fewestLooks_17 : Nat → Rho → Nat → Nat → Int32 → Option (Int32 × Rho × Nat)
  | 0, _, _, _, _ => none
  | n + 1, ρ, z, v1, v2 =>
    if (24 : Int32) ≤ v2 then (fX8_fewestLooks_45 FU ρ z v1 1)
    else ((fX8_areAllUnlike ρ v1 ((1 : Int32) <<< (v2 &&& 31))).bind fun x7 =>
    if x7 = 0 then (fX8_fewestLooks_17 n ρ z v1 (v2 + 1))
    else (some (((1 : Int32) <<< (v2 &&& 31)), ρ, z)))
def fX8_fewestLooks (ρ : Rho) (z : Nat) (v0 : Nat) : Option (Int32 × Rho × Nat) :=
    (fX8_movingHours ρ z v0).bind fun x9 =>
    (fX8_areAllUnlike x9.2.1 x9.1 0).bind fun x10 =>
    if x10 = 0 then (fX8_fewestLooks_17 FU x9.2.1 x9.2.2 x9.1 0)
    else (some (0, x9.2.1, x9.2.2))
abbrev rX8_fewestLooks : Room := { frames := 4, cells := 1, slots := 8, locals := 90 }
theorem hdX8_fewestLooks : hdP yX8_fewestLooks 1 := by unfold hdP; decide +kernel
set_option maxHeartbeats 4000000 in
set_option maxRecDepth 100000 in
theorem kX8_fewestLooks (l : Launch) (G : GD) (ρ : Rho) (z : Nat) (v0 : Nat) (r0 : Int32) (ρ1 : Rho) (z1 : Nat) (hf : fX8_fewestLooks ρ z v0 = some (r0, ρ1, z1)) : AM l G yX8_fewestLooks (Cond.code yX8_fewestLooks cX8_fewestLooks 4 (some .int) :: LW) rX8_fewestLooks ρ z [.ref v0] (some (.int r0)) ρ1 z1 1 8 := by
  obtain ⟨r, hr⟩ : ∃ r, r = (r0, ρ1, z1) := ⟨_, rfl⟩
  rw [← hr] at hf
  refine AM.ofI (own := RX8) (r := r) hr (by decide) rfl (Nat.le_of_ble_eq_true rfl) ?_
  intro p e s m args below meth c H locs Q hx hb hml hown hts hin0 hK hO hR hS hret ls hl
  obtain ⟨ρ0, hρ0⟩ : ∃ y, y = ρ := ⟨_, rfl⟩
  rw [← hρ0] at hret
  replace hS : AS ρ0 s.heap ρ z H locs := hρ0 ▸ hS
  replace hl : lv_has ls 4 [(0, .ref v0)] := hl
  have L53 : ∀ (k45 : Rho → Nat → Nat → Int32 → Option (Int32 × Rho × Nat)) (_ : ∀ (ρ : Rho) (z : Nat) (v1 : Nat) (v2 : Int32) (H : Heap) (locs : List Loc) (ls : Array Slot), k45 ρ z v1 v2 = some r → lv_has ls 4 [(1, .ref v1), (2, .int v2)] → RW G ρ H → AS ρ0 s.heap ρ z H locs → W p l e rX8_fewestLooks s m args below meth c H locs 1 8 Q (F0 m 45 ls [])), ∀ (n : Nat) (ρ : Rho) (z : Nat) (v1 : Nat) (v2 : Int32) (v3 : Int32) (H : Heap) (locs : List Loc) (ls : Array Slot), fX8_fewestLooks_53 k45 n ρ z v1 v2 v3 = some r → lv_has ls 4 [(1, .ref v1), (2, .int v2), (3, .int v3)] → RW G ρ H → AS ρ0 s.heap ρ z H locs → W p l e rX8_fewestLooks s m args below meth c H locs 1 8 Q (F0 m 53 ls []) := by
    intro k45 hk45 n
    induction n with
    | zero =>
      intro ρ z v1 v2 v3 H locs ls hf
      rw [fX8_fewestLooks_53] at hf
      cases hf
    | succ n ih =>
      intro ρ z v1 v2 v3 H locs ls hf hl hR hS
      rw [fX8_fewestLooks_53] at hf
      refine lv_iload_n hx hb dX8_fewestLooks_53 rfl (lv_at hl 2 rfl) ?_
      refine lv_iload_n hx hb dX8_fewestLooks_54 rfl (lv_at hl 1 rfl) ?_
      refine lv_icmp_ge (tgt := 86) hx hb dX8_fewestLooks_55 (by decide) (fun c1 => ?_) (fun c1 => ?_)
      · replace hf := (if_pos c1).symm.trans hf
        refine lv_iinc (v := (v2 + 1)) (lv' := [(2, .int (v2 + 1)), (1, .ref v1), (3, .int v3)]) hx hb dX8_fewestLooks_86 hl (k := 1) rfl rfl (by decide) rfl (fun ls hl => ?_)
        refine lv_goto (tgt := 45) hx hb dX8_fewestLooks_89 (by decide) ?_
        exact hk45 ρ z v1 (v2 + 1) H locs ls hf (lv_sub hl [1, 0] rfl) hR hS
      · replace hf := (if_neg c1).symm.trans hf
        refine lv_aload_n hx hb dX8_fewestLooks_58 rfl (lv_at hl 0 rfl) ?_
        refine lv_iconst (v := 1) hx hb dX8_fewestLooks_59 (by decide) ?_
        refine lv_iload_n hx hb dX8_fewestLooks_60 rfl (lv_at hl 1 rfl) ?_
        refine lv_ishl hx hb dX8_fewestLooks_61 ?_
        refine lv_iconst (v := 1) hx hb dX8_fewestLooks_62 (by decide) ?_
        refine lv_iload_n hx hb dX8_fewestLooks_63 rfl (lv_at hl 2 rfl) ?_
        refine lv_ishl hx hb dX8_fewestLooks_64 ?_
        refine lv_ior hx hb dX8_fewestLooks_65 ?_
        obtain ⟨x2, h2, hf⟩ := Option.bind_eq_some_iff.mp hf
        refine r_callS (As := [.ref v1, .int (((1 : Int32) <<< (v2 &&& 31)) ||| ((1 : Int32) <<< (v3 &&& 31)))]) (rest := []) (st1 := [.int x2]) ⟨hx, hb, hml, hown, hts⟩ (kX8_areAllUnlike l G ρ v1 (((1 : Int32) <<< (v2 &&& 31)) ||| ((1 : Int32) <<< (v3 &&& 31))) _ h2) (cu_S hts tw_2_223 tw_2_221 tw_2_222 tw_1_12 hdX8_areAllUnlike rfl rfl ⟨(Nat.le_of_ble_eq_true rfl), (Nat.le_of_ble_eq_true rfl)⟩) hK hR rfl hl.1 rfl (Nat.le_of_ble_eq_true rfl) dX8_fewestLooks_66 ⟨Nat.le_of_ble_eq_true rfl, Nat.le_of_ble_eq_true rfl⟩ rfl ?_
        refine lv_if_eq (tgt := 80) hx hb dX8_fewestLooks_69 (by decide) (fun c3 => ?_) (fun c3 => ?_)
        · replace hf := (if_pos c3).symm.trans hf
          refine lv_iinc (v := (v3 + 1)) (lv' := [(3, .int (v3 + 1)), (1, .ref v1), (2, .int v2)]) hx hb dX8_fewestLooks_80 hl (k := 2) rfl rfl (by decide) rfl (fun ls hl => ?_)
          refine lv_goto (tgt := 53) hx hb dX8_fewestLooks_83 (by decide) ?_
          exact ih ρ z v1 v2 (v3 + 1) H locs ls hf (lv_sub hl [1, 2, 0] rfl) hR hS
        · replace hf := (if_neg c3).symm.trans hf
          refine lv_iconst (v := 1) hx hb dX8_fewestLooks_72 (by decide) ?_
          refine lv_iload_n hx hb dX8_fewestLooks_73 rfl (lv_at hl 1 rfl) ?_
          refine lv_ishl hx hb dX8_fewestLooks_74 ?_
          refine lv_iconst (v := 1) hx hb dX8_fewestLooks_75 (by decide) ?_
          refine lv_iload_n hx hb dX8_fewestLooks_76 rfl (lv_at hl 2 rfl) ?_
          refine lv_ishl hx hb dX8_fewestLooks_77 ?_
          refine lv_ior hx hb dX8_fewestLooks_78 ?_
          exact hret _ _ _ _ _ _ _ dX8_fewestLooks_79 hR hS hf
  have L45 : ∀ (n : Nat) (ρ : Rho) (z : Nat) (v1 : Nat) (v2 : Int32) (H : Heap) (locs : List Loc) (ls : Array Slot), fX8_fewestLooks_45 n ρ z v1 v2 = some r → lv_has ls 4 [(1, .ref v1), (2, .int v2)] → RW G ρ H → AS ρ0 s.heap ρ z H locs → W p l e rX8_fewestLooks s m args below meth c H locs 1 8 Q (F0 m 45 ls []) := by
    intro n
    induction n with
    | zero =>
      intro ρ z v1 v2 H locs ls hf
      rw [fX8_fewestLooks_45] at hf
      cases hf
    | succ n ih =>
      intro ρ z v1 v2 H locs ls hf hl hR hS
      rw [fX8_fewestLooks_45] at hf
      refine lv_iload_n hx hb dX8_fewestLooks_45 rfl (lv_at hl 1 rfl) ?_
      refine lv_bipush (v := 24) hx hb dX8_fewestLooks_46 (by decide) ?_
      refine lv_icmp_ge (tgt := 92) hx hb dX8_fewestLooks_48 (by decide) (fun c4 => ?_) (fun c4 => ?_)
      · replace hf := (if_pos c4).symm.trans hf
        refine lv_aload_n hx hb dX8_fewestLooks_92 rfl (lv_at hl 0 rfl) ?_
        obtain ⟨x5, h5, hf⟩ := Option.bind_eq_some_iff.mp hf
        refine r_callS (As := [.ref v1]) (rest := []) (st1 := [.int x5]) ⟨hx, hb, hml, hown, hts⟩ (kX8_leastOfThreeLooks l G ρ v1 _ h5) (cu_S hts tw_2_226 tw_2_224 tw_2_225 tw_1_12 hdX8_leastOfThreeLooks rfl rfl ⟨(Nat.le_of_ble_eq_true rfl), (Nat.le_of_ble_eq_true rfl)⟩) hK hR rfl hl.1 rfl (Nat.le_of_ble_eq_true rfl) dX8_fewestLooks_93 ⟨Nat.le_of_ble_eq_true rfl, Nat.le_of_ble_eq_true rfl⟩ rfl ?_
        exact hret _ _ _ _ _ _ _ dX8_fewestLooks_96 hR hS hf
      · replace hf := (if_neg c4).symm.trans hf
        refine lv_iconst (v := 0) hx hb dX8_fewestLooks_51 (by decide) ?_
        refine lv_istore_n (lv' := [(3, .int 0), (1, .ref v1), (2, .int v2)]) hx hb dX8_fewestLooks_52 rfl hl (by decide) rfl (fun ls hl => ?_)
        exact L53 _ ih FU ρ z v1 v2 0 H locs ls hf (lv_sub hl [1, 2, 0] rfl) hR hS
  have L17 : ∀ (n : Nat) (ρ : Rho) (z : Nat) (v1 : Nat) (v2 : Int32) (H : Heap) (locs : List Loc) (ls : Array Slot), fX8_fewestLooks_17 n ρ z v1 v2 = some r → lv_has ls 4 [(1, .ref v1), (2, .int v2)] → RW G ρ H → AS ρ0 s.heap ρ z H locs → W p l e rX8_fewestLooks s m args below meth c H locs 1 8 Q (F0 m 17 ls []) := by
    intro n
    induction n with
    | zero =>
      intro ρ z v1 v2 H locs ls hf
      rw [fX8_fewestLooks_17] at hf
      cases hf
    | succ n ih =>
      intro ρ z v1 v2 H locs ls hf hl hR hS
      rw [fX8_fewestLooks_17] at hf
      refine lv_iload_n hx hb dX8_fewestLooks_17 rfl (lv_at hl 1 rfl) ?_
      refine lv_bipush (v := 24) hx hb dX8_fewestLooks_18 (by decide) ?_
      refine lv_icmp_ge (tgt := 43) hx hb dX8_fewestLooks_20 (by decide) (fun c6 => ?_) (fun c6 => ?_)
      · replace hf := (if_pos c6).symm.trans hf
        refine lv_iconst (v := 1) hx hb dX8_fewestLooks_43 (by decide) ?_
        refine lv_istore_n (lv' := [(2, .int 1), (1, .ref v1)]) hx hb dX8_fewestLooks_44 rfl hl (by decide) rfl (fun ls hl => ?_)
        exact L45 FU ρ z v1 1 H locs ls hf (lv_sub hl [1, 0] rfl) hR hS
      · replace hf := (if_neg c6).symm.trans hf
        refine lv_aload_n hx hb dX8_fewestLooks_23 rfl (lv_at hl 0 rfl) ?_
        refine lv_iconst (v := 1) hx hb dX8_fewestLooks_24 (by decide) ?_
        refine lv_iload_n hx hb dX8_fewestLooks_25 rfl (lv_at hl 1 rfl) ?_
        refine lv_ishl hx hb dX8_fewestLooks_26 ?_
        obtain ⟨x7, h7, hf⟩ := Option.bind_eq_some_iff.mp hf
        refine r_callS (As := [.ref v1, .int ((1 : Int32) <<< (v2 &&& 31))]) (rest := []) (st1 := [.int x7]) ⟨hx, hb, hml, hown, hts⟩ (kX8_areAllUnlike l G ρ v1 ((1 : Int32) <<< (v2 &&& 31)) _ h7) (cu_S hts tw_2_223 tw_2_221 tw_2_222 tw_1_12 hdX8_areAllUnlike rfl rfl ⟨(Nat.le_of_ble_eq_true rfl), (Nat.le_of_ble_eq_true rfl)⟩) hK hR rfl hl.1 rfl (Nat.le_of_ble_eq_true rfl) dX8_fewestLooks_27 ⟨Nat.le_of_ble_eq_true rfl, Nat.le_of_ble_eq_true rfl⟩ rfl ?_
        refine lv_if_eq (tgt := 37) hx hb dX8_fewestLooks_30 (by decide) (fun c8 => ?_) (fun c8 => ?_)
        · replace hf := (if_pos c8).symm.trans hf
          refine lv_iinc (v := (v2 + 1)) (lv' := [(2, .int (v2 + 1)), (1, .ref v1)]) hx hb dX8_fewestLooks_37 hl (k := 1) rfl rfl (by decide) rfl (fun ls hl => ?_)
          refine lv_goto (tgt := 17) hx hb dX8_fewestLooks_40 (by decide) ?_
          exact ih ρ z v1 (v2 + 1) H locs ls hf (lv_sub hl [1, 0] rfl) hR hS
        · replace hf := (if_neg c8).symm.trans hf
          refine lv_iconst (v := 1) hx hb dX8_fewestLooks_33 (by decide) ?_
          refine lv_iload_n hx hb dX8_fewestLooks_34 rfl (lv_at hl 1 rfl) ?_
          refine lv_ishl hx hb dX8_fewestLooks_35 ?_
          exact hret _ _ _ _ _ _ _ dX8_fewestLooks_36 hR hS hf
  unfold fX8_fewestLooks at hf
  refine lv_aload_n hx hb dX8_fewestLooks_0 rfl (lv_at hl 0 rfl) ?_
  obtain ⟨x9, h9, hf⟩ := Option.bind_eq_some_iff.mp hf
  refine a_callS (As := [.ref v0]) (rest := []) (st1 := [.ref x9.1]) ⟨hx, hb, hml, hown, hts⟩ (kX8_movingHours l G ρ z v0 _ _ _ h9) (cu_S hts tw_2_214 tw_2_212 tw_2_213 tw_1_12 hdX8_movingHours rfl rfl ⟨(Nat.le_of_ble_eq_true rfl), (Nat.le_of_ble_eq_true rfl)⟩) hK hO hR hS rfl hl.1 rfl (Nat.le_of_ble_eq_true rfl) dX8_fewestLooks_1 ⟨Nat.le_of_ble_eq_true rfl, Nat.le_of_ble_eq_true rfl⟩ rfl (fun H locs hR hS => ?_)
  refine lv_astore_n (lv' := [(1, .ref x9.1), (0, .ref v0)]) hx hb dX8_fewestLooks_4 rfl hl (by decide) rfl (fun ls hl => ?_)
  refine lv_aload_n hx hb dX8_fewestLooks_5 rfl (lv_at hl 0 rfl) ?_
  refine lv_iconst (v := 0) hx hb dX8_fewestLooks_6 (by decide) ?_
  obtain ⟨x10, h10, hf⟩ := Option.bind_eq_some_iff.mp hf
  refine r_callS (As := [.ref x9.1, .int 0]) (rest := []) (st1 := [.int x10]) ⟨hx, hb, hml, hown, hts⟩ (kX8_areAllUnlike l G x9.2.1 x9.1 0 _ h10) (cu_S hts tw_2_223 tw_2_221 tw_2_222 tw_1_12 hdX8_areAllUnlike rfl rfl ⟨(Nat.le_of_ble_eq_true rfl), (Nat.le_of_ble_eq_true rfl)⟩) hK hR rfl hl.1 rfl (Nat.le_of_ble_eq_true rfl) dX8_fewestLooks_7 ⟨Nat.le_of_ble_eq_true rfl, Nat.le_of_ble_eq_true rfl⟩ rfl ?_
  refine lv_if_eq (tgt := 15) hx hb dX8_fewestLooks_10 (by decide) (fun c11 => ?_) (fun c11 => ?_)
  · replace hf := (if_pos c11).symm.trans hf
    refine lv_iconst (v := 0) hx hb dX8_fewestLooks_15 (by decide) ?_
    refine lv_istore_n (lv' := [(2, .int 0), (1, .ref x9.1), (0, .ref v0)]) hx hb dX8_fewestLooks_16 rfl hl (by decide) rfl (fun ls hl => ?_)
    exact L17 FU x9.2.1 x9.2.2 x9.1 0 H locs ls hf (lv_sub hl [1, 0] rfl) hR hS
  · replace hf := (if_neg c11).symm.trans hf
    refine lv_iconst (v := 0) hx hb dX8_fewestLooks_13 (by decide) ?_
    exact hret _ _ _ _ _ _ _ dX8_fewestLooks_14 hR hS hf
/-! BrickedUpAsBlind.looks()I -/
def fX9_looks (ρ : Rho) (z : Nat) (v0 : Nat) : Option (Int32 × Rho × Nat) :=
    (gR ρ 2 v0 0).bind fun x1 =>
    (fX8_fewestLooks ρ z x1).bind fun x2 =>
    some (x2.1, x2.2.1, x2.2.2)
abbrev rX9_looks : Room := { frames := 5, cells := 1, slots := 8, locals := 113 }
theorem hdX9_looks : hdP yX9_looks 0 := by unfold hdP; decide +kernel
set_option maxHeartbeats 4000000 in
set_option maxRecDepth 100000 in
theorem kX9_looks (l : Launch) (G : GD) (ρ : Rho) (z : Nat) (v0 : Nat) (r0 : Int32) (ρ1 : Rho) (z1 : Nat) (hf : fX9_looks ρ z v0 = some (r0, ρ1, z1)) : AM l G yX9_looks (Cond.code yX9_looks cX9_looks 1 (some .int) :: LW) rX9_looks ρ z [.ref v0] (some (.int r0)) ρ1 z1 1 8 := by
  obtain ⟨r, hr⟩ : ∃ r, r = (r0, ρ1, z1) := ⟨_, rfl⟩
  rw [← hr] at hf
  refine AM.ofI (own := RX9) (r := r) hr (by decide) rfl (Nat.le_of_ble_eq_true rfl) ?_
  intro p e s m args below meth c H locs Q hx hb hml hown hts hin0 hK hO hR hS hret ls hl
  obtain ⟨ρ0, hρ0⟩ : ∃ y, y = ρ := ⟨_, rfl⟩
  rw [← hρ0] at hret
  replace hS : AS ρ0 s.heap ρ z H locs := hρ0 ▸ hS
  replace hl : lv_has ls 1 [(0, .ref v0)] := hl
  unfold fX9_looks at hf
  refine lv_aload_n hx hb dX9_looks_0 rfl (lv_at hl 0 rfl) ?_
  obtain ⟨x1, h1, hf⟩ := Option.bind_eq_some_iff.mp hf
  refine r_gR hx hb hts inX9 hown hK hR rfl 0 (by decide) (hts _ tw_1_132) h1 dX9_looks_1 ?_
  obtain ⟨x2, h2, hf⟩ := Option.bind_eq_some_iff.mp hf
  refine a_callS (As := [.ref x1]) (rest := []) (st1 := [.int x2.1]) ⟨hx, hb, hml, hown, hts⟩ (kX8_fewestLooks l G ρ z x1 _ _ _ h2) (cu_S hts tw_2_211 tw_2_209 tw_2_210 tw_1_12 hdX8_fewestLooks rfl rfl ⟨(Nat.le_of_ble_eq_true rfl), (Nat.le_of_ble_eq_true rfl)⟩) hK hO hR hS rfl hl.1 rfl (Nat.le_of_ble_eq_true rfl) dX9_looks_4 ⟨Nat.le_of_ble_eq_true rfl, Nat.le_of_ble_eq_true rfl⟩ rfl (fun H locs hR hS => ?_)
  exact hret _ _ _ _ _ _ _ dX9_looks_7 hR hS hf
