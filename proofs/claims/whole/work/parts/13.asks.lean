/-! BrickedUpAsBlind.Lamps.cheapestStops(LBrickedUpAsBlind$House;)I -/
def fX2_cheapestStops_54 (k7 : Rho → Nat → Int32 → Int32 → Int32 → Option (Int32 × Rho)) (ρ : Rho) (v0 : Nat) (v1 : Int32) (v2 : Int32) (v3 : Int32) : Option (Int32 × Rho) :=
    k7 ρ v0 v1 v2 (v3 + 1)
def fX2_cheapestStops_38 (k7 : Rho → Nat → Int32 → Int32 → Int32 → Option (Int32 × Rho)) (ρ : Rho) (v0 : Nat) (v1 : Int32) (v2 : Int32) (v3 : Int32) (v4 : Int32) : Option (Int32 × Rho) :=
    (gI ρ 0 v0 7).bind fun x1 =>
    (ckO ρ 0 v0).bind fun x2 =>
    (fX0_isAnyLacking ρ v0 x1).bind fun x3 =>
    if x3 = 0 then (fX2_cheapestStops_54 k7 ρ v0 v3 v4 v3)
    else (fX2_cheapestStops_54 k7 ρ v0 v1 v2 v3)
def fX2_cheapestStops_7 : Nat → Rho → Nat → Int32 → Int32 → Int32 → Option (Int32 × Rho)
  | 0, _, _, _, _, _ => none
  | n + 1, ρ, v0, v1, v2, v3 =>
    (gI ρ 0 v0 5).bind fun x5 =>
    if ((1 : Int32) <<< (x5 &&& 31)) ≤ v3 then (some (v1, ρ))
    else ((ptV ρ 0 v0 6 (.int v3)).bind fun x7 =>
    (ckO x7 0 v0).bind fun x8 =>
    (fX0_openDues x7 v0).bind fun x9 =>
    if v1 < 0 then (fX2_cheapestStops_38 (fX2_cheapestStops_7 n) x7 v0 v1 v2 v3 x9)
    else (if v2 ≤ x9 then (fX2_cheapestStops_54 (fX2_cheapestStops_7 n) x7 v0 v1 v2 v3)
    else (fX2_cheapestStops_38 (fX2_cheapestStops_7 n) x7 v0 v1 v2 v3 x9)))
def fX2_cheapestStops (ρ : Rho) (v0 : Nat) : Option (Int32 × Rho) :=
    fX2_cheapestStops_7 FU ρ v0 (-4) 0 0
abbrev rX2_cheapestStops : Room := { frames := 5, cells := 0, slots := 0, locals := 113 }
theorem hdX2_cheapestStops : hdP yX2_cheapestStops 1 := by unfold hdP; decide +kernel
set_option maxHeartbeats 4000000 in
set_option maxRecDepth 100000 in
theorem kX2_cheapestStops (l : Launch) (G : GD) (ρ : Rho) (v0 : Nat) (r0 : Int32) (ρ1 : Rho) (hf : fX2_cheapestStops ρ v0 = some (r0, ρ1)) : WM l G yX2_cheapestStops (Cond.code yX2_cheapestStops cX2_cheapestStops 5 (some .int) :: LW) rX2_cheapestStops ρ [.ref v0] (some (.int r0)) ρ1 := by
  obtain ⟨r, hr⟩ : ∃ r, r = (r0, ρ1) := ⟨_, rfl⟩
  rw [← hr] at hf
  refine WM.ofI (own := RX2) (r := r) hr (by decide) rfl (Nat.le_of_ble_eq_true rfl) ?_
  intro p e s m args below meth c H locs Q hx hb hml hown hts hK hR hS hret ls hl
  obtain ⟨ρ0, hρ0⟩ : ∃ z, z = ρ := ⟨_, rfl⟩
  rw [← hρ0] at hret
  replace hS : WS ρ0 s.heap ρ H locs := hρ0 ▸ hS
  replace hl : lv_has ls 5 [(0, .ref v0)] := hl
  have J54 : ∀ (k7 : Rho → Nat → Int32 → Int32 → Int32 → Option (Int32 × Rho)) (_ : ∀ (ρ : Rho) (v0 : Nat) (v1 : Int32) (v2 : Int32) (v3 : Int32) (H : Heap) (locs : List Loc) (ls : Array Slot), k7 ρ v0 v1 v2 v3 = some r → lv_has ls 5 [(0, .ref v0), (1, .int v1), (2, .int v2), (3, .int v3)] → RW G ρ H → WS ρ0 s.heap ρ H locs → W p l e rX2_cheapestStops s m args below meth c H locs 0 0 Q (F0 m 7 ls [])), ∀ (ρ : Rho) (v0 : Nat) (v1 : Int32) (v2 : Int32) (v3 : Int32) (H : Heap) (locs : List Loc) (ls : Array Slot), fX2_cheapestStops_54 k7 ρ v0 v1 v2 v3 = some r → lv_has ls 5 [(0, .ref v0), (1, .int v1), (2, .int v2), (3, .int v3)] → RW G ρ H → WS ρ0 s.heap ρ H locs → W p l e rX2_cheapestStops s m args below meth c H locs 0 0 Q (F0 m 54 ls []) := by
    intro k7 hk7 ρ v0 v1 v2 v3 H locs ls hf hl hR hS
    rw [fX2_cheapestStops_54] at hf
    refine lv_iinc (v := (v3 + 1)) (lv' := [(3, .int (v3 + 1)), (0, .ref v0), (1, .int v1), (2, .int v2)]) hx hb dX2_cheapestStops_54 hl (k := 3) rfl rfl (by decide) rfl (fun ls hl => ?_)
    refine lv_goto (tgt := 7) hx hb dX2_cheapestStops_57 (by decide) ?_
    exact hk7 ρ v0 v1 v2 (v3 + 1) H locs ls hf (lv_sub hl [1, 2, 3, 0] rfl) hR hS
  have J38 : ∀ (k7 : Rho → Nat → Int32 → Int32 → Int32 → Option (Int32 × Rho)) (_ : ∀ (ρ : Rho) (v0 : Nat) (v1 : Int32) (v2 : Int32) (v3 : Int32) (H : Heap) (locs : List Loc) (ls : Array Slot), k7 ρ v0 v1 v2 v3 = some r → lv_has ls 5 [(0, .ref v0), (1, .int v1), (2, .int v2), (3, .int v3)] → RW G ρ H → WS ρ0 s.heap ρ H locs → W p l e rX2_cheapestStops s m args below meth c H locs 0 0 Q (F0 m 7 ls [])), ∀ (ρ : Rho) (v0 : Nat) (v1 : Int32) (v2 : Int32) (v3 : Int32) (v4 : Int32) (H : Heap) (locs : List Loc) (ls : Array Slot), fX2_cheapestStops_38 k7 ρ v0 v1 v2 v3 v4 = some r → lv_has ls 5 [(0, .ref v0), (1, .int v1), (2, .int v2), (3, .int v3), (4, .int v4)] → RW G ρ H → WS ρ0 s.heap ρ H locs → W p l e rX2_cheapestStops s m args below meth c H locs 0 0 Q (F0 m 38 ls []) := by
    intro k7 hk7 ρ v0 v1 v2 v3 v4 H locs ls hf hl hR hS
    rw [fX2_cheapestStops_38] at hf
    refine lv_aload_n hx hb dX2_cheapestStops_38 rfl (lv_at hl 0 rfl) ?_
    refine lv_aload_n hx hb dX2_cheapestStops_39 rfl (lv_at hl 0 rfl) ?_
    obtain ⟨x1, h1, hf⟩ := Option.bind_eq_some_iff.mp hf
    refine r_gI hx hb hts inX0 hown hK hR rfl 7 (by decide) (hts _ tw_1_60) h1 dX2_cheapestStops_40 ?_
    obtain ⟨x2, h2, hf⟩ := Option.bind_eq_some_iff.mp hf
    obtain ⟨x3, h3, hf⟩ := Option.bind_eq_some_iff.mp hf
    refine r_callV (As := [.int x1]) (rest := []) (st1 := [.int x3]) ⟨hx, hb, hml, hown, hts⟩ (kX0_isAnyLacking l G ρ v0 x1 _ h3) (cu_V hts tw_2_129 tw_2_126 tw_2_127 tw_2_128 tw_1_2 hdX0_isAnyLacking rfl rfl ⟨Nat.le_of_ble_eq_true rfl, Nat.le_of_ble_eq_true rfl⟩) hK hR rfl h2 rfl hl.1 rfl (Nat.le_of_ble_eq_true rfl) dX2_cheapestStops_43 ⟨Nat.zero_le _, Nat.zero_le _⟩ rfl ?_
    refine lv_if_ne (tgt := 54) hx hb dX2_cheapestStops_46 (by decide) (fun c4 => ?_) (fun c4 => ?_)
    · replace hf := (if_neg c4).symm.trans hf
      exact J54 _ hk7 ρ v0 v1 v2 v3 H locs ls hf (lv_sub hl [0, 1, 2, 3] rfl) hR hS
    · replace hf := (if_pos c4).symm.trans hf
      refine lv_iload_n hx hb dX2_cheapestStops_49 rfl (lv_at hl 3 rfl) ?_
      refine lv_istore_n (lv' := [(1, .int v3), (0, .ref v0), (2, .int v2), (3, .int v3), (4, .int v4)]) hx hb dX2_cheapestStops_50 rfl hl (by decide) rfl (fun ls hl => ?_)
      refine lv_iload hx hb dX2_cheapestStops_51 (lv_at hl 4 rfl) ?_
      refine lv_istore_n (lv' := [(2, .int v4), (1, .int v3), (0, .ref v0), (3, .int v3), (4, .int v4)]) hx hb dX2_cheapestStops_53 rfl hl (by decide) rfl (fun ls hl => ?_)
      exact J54 _ hk7 ρ v0 v3 v4 v3 H locs ls hf (lv_sub hl [2, 1, 0, 3] rfl) hR hS
  have L7 : ∀ (n : Nat) (ρ : Rho) (v0 : Nat) (v1 : Int32) (v2 : Int32) (v3 : Int32) (H : Heap) (locs : List Loc) (ls : Array Slot), fX2_cheapestStops_7 n ρ v0 v1 v2 v3 = some r → lv_has ls 5 [(0, .ref v0), (1, .int v1), (2, .int v2), (3, .int v3)] → RW G ρ H → WS ρ0 s.heap ρ H locs → W p l e rX2_cheapestStops s m args below meth c H locs 0 0 Q (F0 m 7 ls []) := by
    intro n
    induction n with
    | zero =>
      intro ρ v0 v1 v2 v3 H locs ls hf
      rw [fX2_cheapestStops_7] at hf
      cases hf
    | succ n ih =>
      intro ρ v0 v1 v2 v3 H locs ls hf hl hR hS
      rw [fX2_cheapestStops_7] at hf
      refine lv_iload_n hx hb dX2_cheapestStops_7 rfl (lv_at hl 3 rfl) ?_
      refine lv_iconst (v := 1) hx hb dX2_cheapestStops_8 (by decide) ?_
      refine lv_aload_n hx hb dX2_cheapestStops_9 rfl (lv_at hl 0 rfl) ?_
      obtain ⟨x5, h5, hf⟩ := Option.bind_eq_some_iff.mp hf
      refine r_gI hx hb hts inX0 hown hK hR rfl 5 (by decide) (hts _ tw_1_49) h5 dX2_cheapestStops_10 ?_
      refine lv_ishl hx hb dX2_cheapestStops_13 ?_
      refine lv_icmp_ge (tgt := 60) hx hb dX2_cheapestStops_14 (by decide) (fun c6 => ?_) (fun c6 => ?_)
      · replace hf := (if_pos c6).symm.trans hf
        refine lv_iload_n hx hb dX2_cheapestStops_60 rfl (lv_at hl 1 rfl) ?_
        exact hret _ _ _ _ _ _ dX2_cheapestStops_61 hR hS hf
      · replace hf := (if_neg c6).symm.trans hf
        refine lv_aload_n hx hb dX2_cheapestStops_17 rfl (lv_at hl 0 rfl) ?_
        refine lv_iload_n hx hb dX2_cheapestStops_18 rfl (lv_at hl 3 rfl) ?_
        obtain ⟨x7, h7, hf⟩ := Option.bind_eq_some_iff.mp hf
        refine w_ptV hx hb hts inX0 tyX0 tyX0_ok nmX0 hown hK hR hS rfl 6 (by decide) (hts _ tw_1_56) rfl (ty := .int) rfl rfl rfl h7 dX2_cheapestStops_19 (fun H locs hR hS => ?_)
        refine lv_aload_n hx hb dX2_cheapestStops_22 rfl (lv_at hl 0 rfl) ?_
        obtain ⟨x8, h8, hf⟩ := Option.bind_eq_some_iff.mp hf
        obtain ⟨x9, h9, hf⟩ := Option.bind_eq_some_iff.mp hf
        refine r_callV (As := []) (rest := []) (st1 := [.int x9]) ⟨hx, hb, hml, hown, hts⟩ (kX0_openDues l G x7 v0 _ h9) (cu_V hts tw_2_5 tw_2_125 tw_2_3 tw_2_4 tw_1_2 hdX0_openDues rfl rfl ⟨Nat.le_of_ble_eq_true rfl, Nat.le_of_ble_eq_true rfl⟩) hK hR rfl h8 rfl hl.1 rfl (Nat.le_of_ble_eq_true rfl) dX2_cheapestStops_23 ⟨Nat.zero_le _, Nat.zero_le _⟩ rfl ?_
        refine lv_istore (lv' := [(4, .int x9), (0, .ref v0), (1, .int v1), (2, .int v2), (3, .int v3)]) hx hb dX2_cheapestStops_26 hl (by decide) rfl (fun ls hl => ?_)
        refine lv_iload_n hx hb dX2_cheapestStops_28 rfl (lv_at hl 2 rfl) ?_
        refine lv_if_lt (tgt := 38) hx hb dX2_cheapestStops_29 (by decide) (fun c10 => ?_) (fun c10 => ?_)
        · replace hf := (if_pos c10).symm.trans hf
          exact J38 _ ih x7 v0 v1 v2 v3 x9 H locs ls hf (lv_sub hl [1, 2, 3, 4, 0] rfl) hR hS
        · replace hf := (if_neg c10).symm.trans hf
          refine lv_iload hx hb dX2_cheapestStops_32 (lv_at hl 0 rfl) ?_
          refine lv_iload_n hx hb dX2_cheapestStops_34 rfl (lv_at hl 3 rfl) ?_
          refine lv_icmp_ge (tgt := 54) hx hb dX2_cheapestStops_35 (by decide) (fun c11 => ?_) (fun c11 => ?_)
          · replace hf := (if_pos c11).symm.trans hf
            exact J54 _ ih x7 v0 v1 v2 v3 H locs ls hf (lv_sub hl [1, 2, 3, 4] rfl) hR hS
          · replace hf := (if_neg c11).symm.trans hf
            exact J38 _ ih x7 v0 v1 v2 v3 x9 H locs ls hf (lv_sub hl [1, 2, 3, 4, 0] rfl) hR hS
  unfold fX2_cheapestStops at hf
  refine lv_bipush (v := (-4)) hx hb dX2_cheapestStops_0 (by decide) ?_
  refine lv_istore_n (lv' := [(1, .int (-4)), (0, .ref v0)]) hx hb dX2_cheapestStops_2 rfl hl (by decide) rfl (fun ls hl => ?_)
  refine lv_iconst (v := 0) hx hb dX2_cheapestStops_3 (by decide) ?_
  refine lv_istore_n (lv' := [(2, .int 0), (1, .int (-4)), (0, .ref v0)]) hx hb dX2_cheapestStops_4 rfl hl (by decide) rfl (fun ls hl => ?_)
  refine lv_iconst (v := 0) hx hb dX2_cheapestStops_5 (by decide) ?_
  refine lv_istore_n (lv' := [(3, .int 0), (2, .int 0), (1, .int (-4)), (0, .ref v0)]) hx hb dX2_cheapestStops_6 rfl hl (by decide) rfl (fun ls hl => ?_)
  exact L7 FU ρ v0 (-4) 0 0 H locs ls hf (lv_sub hl [3, 2, 1, 0] rfl) hR hS
/-! BrickedUpAsBlind.Lamps.darkHours(LBrickedUpAsBlind$House;)I -/
def fX2_darkHours_24 (ρ : Rho) (k4 : Nat → Int32 → Int32 → Option Int32) (v0 : Nat) (v1 : Int32) (v2 : Int32) : Option Int32 :=
    k4 v0 v1 (v2 + 1)
def fX2_darkHours_4 (ρ : Rho) : Nat → Nat → Int32 → Int32 → Option Int32
  | 0, _, _, _ => none
  | n + 1, v0, v1, v2 =>
    if (24 : Int32) ≤ v2 then (some v1)
    else ((ckO ρ 0 v0).bind fun x2 =>
    (fX0_isAnyLacking ρ v0 v2).bind fun x3 =>
    if x3 = 0 then (fX2_darkHours_24 ρ (fX2_darkHours_4 ρ n) v0 v1 v2)
    else (fX2_darkHours_24 ρ (fX2_darkHours_4 ρ n) v0 (v1 ||| ((1 : Int32) <<< (v2 &&& 31))) v2))
def fX2_darkHours (ρ : Rho) (v0 : Nat) : Option Int32 :=
    fX2_darkHours_4 ρ FU v0 0 0
abbrev rX2_darkHours : Room := { frames := 5, cells := 0, slots := 0, locals := 113 }
theorem hdX2_darkHours : hdP yX2_darkHours 1 := by unfold hdP; decide +kernel
set_option maxHeartbeats 4000000 in
set_option maxRecDepth 100000 in
theorem kX2_darkHours (l : Launch) (G : GD) (ρ : Rho) (v0 : Nat) (r : Int32) (hf : fX2_darkHours ρ v0 = some r) : RM l G yX2_darkHours (Cond.code yX2_darkHours cX2_darkHours 3 (some .int) :: LW) rX2_darkHours ρ [.ref v0] (some (.int r)) := by
  refine RM.ofI (own := RX2) (by decide) rfl (Nat.le_of_ble_eq_true rfl) ?_
  intro p e s m args below meth c H locs Q hx hb hml hown hts hK hR hret ls hl
  replace hl : lv_has ls 3 [(0, .ref v0)] := hl
  have J24 : ∀ (k4 : Nat → Int32 → Int32 → Option Int32) (_ : ∀ (v0 : Nat) (v1 : Int32) (v2 : Int32) (ls : Array Slot), k4 v0 v1 v2 = some r → lv_has ls 3 [(0, .ref v0), (1, .int v1), (2, .int v2)] → W p l e rX2_darkHours s m args below meth c H locs 0 0 Q (F0 m 4 ls [])), ∀ (v0 : Nat) (v1 : Int32) (v2 : Int32) (ls : Array Slot), fX2_darkHours_24 ρ k4 v0 v1 v2 = some r → lv_has ls 3 [(0, .ref v0), (1, .int v1), (2, .int v2)] → W p l e rX2_darkHours s m args below meth c H locs 0 0 Q (F0 m 24 ls []) := by
    intro k4 hk4 v0 v1 v2 ls hf hl
    rw [fX2_darkHours_24] at hf
    refine lv_iinc (v := (v2 + 1)) (lv' := [(2, .int (v2 + 1)), (0, .ref v0), (1, .int v1)]) hx hb dX2_darkHours_24 hl (k := 2) rfl rfl (by decide) rfl (fun ls hl => ?_)
    refine lv_goto (tgt := 4) hx hb dX2_darkHours_27 (by decide) ?_
    exact hk4 v0 v1 (v2 + 1) ls hf (lv_sub hl [1, 2, 0] rfl)
  have L4 : ∀ (n : Nat) (v0 : Nat) (v1 : Int32) (v2 : Int32) (ls : Array Slot), fX2_darkHours_4 ρ n v0 v1 v2 = some r → lv_has ls 3 [(0, .ref v0), (1, .int v1), (2, .int v2)] → W p l e rX2_darkHours s m args below meth c H locs 0 0 Q (F0 m 4 ls []) := by
    intro n
    induction n with
    | zero =>
      intro v0 v1 v2 ls hf
      rw [fX2_darkHours_4] at hf
      cases hf
    | succ n ih =>
      intro v0 v1 v2 ls hf hl
      rw [fX2_darkHours_4] at hf
      refine lv_iload_n hx hb dX2_darkHours_4 rfl (lv_at hl 2 rfl) ?_
      refine lv_bipush (v := 24) hx hb dX2_darkHours_5 (by decide) ?_
      refine lv_icmp_ge (tgt := 30) hx hb dX2_darkHours_7 (by decide) (fun c1 => ?_) (fun c1 => ?_)
      · replace hf := (if_pos c1).symm.trans hf
        refine lv_iload_n hx hb dX2_darkHours_30 rfl (lv_at hl 1 rfl) ?_
        exact hret _ _ _ dX2_darkHours_31 hf
      · replace hf := (if_neg c1).symm.trans hf
        refine lv_aload_n hx hb dX2_darkHours_10 rfl (lv_at hl 0 rfl) ?_
        refine lv_iload_n hx hb dX2_darkHours_11 rfl (lv_at hl 2 rfl) ?_
        obtain ⟨x2, h2, hf⟩ := Option.bind_eq_some_iff.mp hf
        obtain ⟨x3, h3, hf⟩ := Option.bind_eq_some_iff.mp hf
        refine r_callV (As := [.int v2]) (rest := []) (st1 := [.int x3]) ⟨hx, hb, hml, hown, hts⟩ (kX0_isAnyLacking l G ρ v0 v2 _ h3) (cu_V hts tw_2_129 tw_2_126 tw_2_127 tw_2_128 tw_1_2 hdX0_isAnyLacking rfl rfl ⟨Nat.le_of_ble_eq_true rfl, Nat.le_of_ble_eq_true rfl⟩) hK hR rfl h2 rfl hl.1 rfl (Nat.le_of_ble_eq_true rfl) dX2_darkHours_12 ⟨Nat.zero_le _, Nat.zero_le _⟩ rfl ?_
        refine lv_if_eq (tgt := 24) hx hb dX2_darkHours_15 (by decide) (fun c4 => ?_) (fun c4 => ?_)
        · replace hf := (if_pos c4).symm.trans hf
          exact J24 _ ih v0 v1 v2 ls hf (lv_sub hl [0, 1, 2] rfl)
        · replace hf := (if_neg c4).symm.trans hf
          refine lv_iload_n hx hb dX2_darkHours_18 rfl (lv_at hl 1 rfl) ?_
          refine lv_iconst (v := 1) hx hb dX2_darkHours_19 (by decide) ?_
          refine lv_iload_n hx hb dX2_darkHours_20 rfl (lv_at hl 2 rfl) ?_
          refine lv_ishl hx hb dX2_darkHours_21 ?_
          refine lv_ior hx hb dX2_darkHours_22 ?_
          refine lv_istore_n (lv' := [(1, .int (v1 ||| ((1 : Int32) <<< (v2 &&& 31)))), (0, .ref v0), (2, .int v2)]) hx hb dX2_darkHours_23 rfl hl (by decide) rfl (fun ls hl => ?_)
          exact J24 _ ih v0 (v1 ||| ((1 : Int32) <<< (v2 &&& 31))) v2 ls hf (lv_sub hl [1, 0, 2] rfl)
  unfold fX2_darkHours at hf
  refine lv_iconst (v := 0) hx hb dX2_darkHours_0 (by decide) ?_
  refine lv_istore_n (lv' := [(1, .int 0), (0, .ref v0)]) hx hb dX2_darkHours_1 rfl hl (by decide) rfl (fun ls hl => ?_)
  refine lv_iconst (v := 0) hx hb dX2_darkHours_2 (by decide) ?_
  refine lv_istore_n (lv' := [(2, .int 0), (1, .int 0), (0, .ref v0)]) hx hb dX2_darkHours_3 rfl hl (by decide) rfl (fun ls hl => ?_)
  exact L4 FU v0 0 0 ls hf (lv_sub hl [2, 1, 0] rfl)
/-! BrickedUpAsBlind.Lamps.darkestHour(LBrickedUpAsBlind$House;)I -/
def fX2_darkestHour_25 (ρ : Rho) (k4 : Nat → Int32 → Int32 → Option Int32) (v0 : Nat) (v1 : Int32) (v2 : Int32) : Option Int32 :=
    k4 v0 v1 (v2 + 1)
def fX2_darkestHour_4 (ρ : Rho) : Nat → Nat → Int32 → Int32 → Option Int32
  | 0, _, _, _ => none
  | n + 1, v0, v1, v2 =>
    if (24 : Int32) ≤ v2 then (some v1)
    else ((ckO ρ 0 v0).bind fun x2 =>
    (fX0_wholeLight ρ v0 v2).bind fun x3 =>
    (ckO ρ 0 v0).bind fun x4 =>
    (fX0_wholeLight ρ v0 v1).bind fun x5 =>
    if x5 ≤ x3 then (fX2_darkestHour_25 ρ (fX2_darkestHour_4 ρ n) v0 v1 v2)
    else (fX2_darkestHour_25 ρ (fX2_darkestHour_4 ρ n) v0 v2 v2))
def fX2_darkestHour (ρ : Rho) (v0 : Nat) : Option Int32 :=
    fX2_darkestHour_4 ρ FU v0 0 1
abbrev rX2_darkestHour : Room := { frames := 3, cells := 0, slots := 0, locals := 68 }
theorem hdX2_darkestHour : hdP yX2_darkestHour 1 := by unfold hdP; decide +kernel
set_option maxHeartbeats 4000000 in
set_option maxRecDepth 100000 in
theorem kX2_darkestHour (l : Launch) (G : GD) (ρ : Rho) (v0 : Nat) (r : Int32) (hf : fX2_darkestHour ρ v0 = some r) : RM l G yX2_darkestHour (Cond.code yX2_darkestHour cX2_darkestHour 3 (some .int) :: LW) rX2_darkestHour ρ [.ref v0] (some (.int r)) := by
  refine RM.ofI (own := RX2) (by decide) rfl (Nat.le_of_ble_eq_true rfl) ?_
  intro p e s m args below meth c H locs Q hx hb hml hown hts hK hR hret ls hl
  replace hl : lv_has ls 3 [(0, .ref v0)] := hl
  have J25 : ∀ (k4 : Nat → Int32 → Int32 → Option Int32) (_ : ∀ (v0 : Nat) (v1 : Int32) (v2 : Int32) (ls : Array Slot), k4 v0 v1 v2 = some r → lv_has ls 3 [(0, .ref v0), (1, .int v1), (2, .int v2)] → W p l e rX2_darkestHour s m args below meth c H locs 0 0 Q (F0 m 4 ls [])), ∀ (v0 : Nat) (v1 : Int32) (v2 : Int32) (ls : Array Slot), fX2_darkestHour_25 ρ k4 v0 v1 v2 = some r → lv_has ls 3 [(0, .ref v0), (1, .int v1), (2, .int v2)] → W p l e rX2_darkestHour s m args below meth c H locs 0 0 Q (F0 m 25 ls []) := by
    intro k4 hk4 v0 v1 v2 ls hf hl
    rw [fX2_darkestHour_25] at hf
    refine lv_iinc (v := (v2 + 1)) (lv' := [(2, .int (v2 + 1)), (0, .ref v0), (1, .int v1)]) hx hb dX2_darkestHour_25 hl (k := 2) rfl rfl (by decide) rfl (fun ls hl => ?_)
    refine lv_goto (tgt := 4) hx hb dX2_darkestHour_28 (by decide) ?_
    exact hk4 v0 v1 (v2 + 1) ls hf (lv_sub hl [1, 2, 0] rfl)
  have L4 : ∀ (n : Nat) (v0 : Nat) (v1 : Int32) (v2 : Int32) (ls : Array Slot), fX2_darkestHour_4 ρ n v0 v1 v2 = some r → lv_has ls 3 [(0, .ref v0), (1, .int v1), (2, .int v2)] → W p l e rX2_darkestHour s m args below meth c H locs 0 0 Q (F0 m 4 ls []) := by
    intro n
    induction n with
    | zero =>
      intro v0 v1 v2 ls hf
      rw [fX2_darkestHour_4] at hf
      cases hf
    | succ n ih =>
      intro v0 v1 v2 ls hf hl
      rw [fX2_darkestHour_4] at hf
      refine lv_iload_n hx hb dX2_darkestHour_4 rfl (lv_at hl 2 rfl) ?_
      refine lv_bipush (v := 24) hx hb dX2_darkestHour_5 (by decide) ?_
      refine lv_icmp_ge (tgt := 31) hx hb dX2_darkestHour_7 (by decide) (fun c1 => ?_) (fun c1 => ?_)
      · replace hf := (if_pos c1).symm.trans hf
        refine lv_iload_n hx hb dX2_darkestHour_31 rfl (lv_at hl 1 rfl) ?_
        exact hret _ _ _ dX2_darkestHour_32 hf
      · replace hf := (if_neg c1).symm.trans hf
        refine lv_aload_n hx hb dX2_darkestHour_10 rfl (lv_at hl 0 rfl) ?_
        refine lv_iload_n hx hb dX2_darkestHour_11 rfl (lv_at hl 2 rfl) ?_
        obtain ⟨x2, h2, hf⟩ := Option.bind_eq_some_iff.mp hf
        obtain ⟨x3, h3, hf⟩ := Option.bind_eq_some_iff.mp hf
        refine r_callV (As := [.int v2]) (rest := []) (st1 := [.int x3]) ⟨hx, hb, hml, hown, hts⟩ (kX0_wholeLight l G ρ v0 v2 _ h3) (cu_V hts tw_2_153 tw_2_150 tw_2_151 tw_2_152 tw_1_2 hdX0_wholeLight rfl rfl ⟨Nat.le_of_ble_eq_true rfl, Nat.le_of_ble_eq_true rfl⟩) hK hR rfl h2 rfl hl.1 rfl (Nat.le_of_ble_eq_true rfl) dX2_darkestHour_12 ⟨Nat.zero_le _, Nat.zero_le _⟩ rfl ?_
        refine lv_aload_n hx hb dX2_darkestHour_15 rfl (lv_at hl 0 rfl) ?_
        refine lv_iload_n hx hb dX2_darkestHour_16 rfl (lv_at hl 1 rfl) ?_
        obtain ⟨x4, h4, hf⟩ := Option.bind_eq_some_iff.mp hf
        obtain ⟨x5, h5, hf⟩ := Option.bind_eq_some_iff.mp hf
        refine r_callV (As := [.int v1]) (rest := [.int x3]) (st1 := [.int x5, .int x3]) ⟨hx, hb, hml, hown, hts⟩ (kX0_wholeLight l G ρ v0 v1 _ h5) (cu_V hts tw_2_153 tw_2_150 tw_2_151 tw_2_152 tw_1_2 hdX0_wholeLight rfl rfl ⟨Nat.le_of_ble_eq_true rfl, Nat.le_of_ble_eq_true rfl⟩) hK hR rfl h4 rfl hl.1 rfl (Nat.le_of_ble_eq_true rfl) dX2_darkestHour_17 ⟨Nat.zero_le _, Nat.zero_le _⟩ rfl ?_
        refine lv_icmp_ge (tgt := 25) hx hb dX2_darkestHour_20 (by decide) (fun c6 => ?_) (fun c6 => ?_)
        · replace hf := (if_pos c6).symm.trans hf
          exact J25 _ ih v0 v1 v2 ls hf (lv_sub hl [0, 1, 2] rfl)
        · replace hf := (if_neg c6).symm.trans hf
          refine lv_iload_n hx hb dX2_darkestHour_23 rfl (lv_at hl 2 rfl) ?_
          refine lv_istore_n (lv' := [(1, .int v2), (0, .ref v0), (2, .int v2)]) hx hb dX2_darkestHour_24 rfl hl (by decide) rfl (fun ls hl => ?_)
          exact J25 _ ih v0 v2 v2 ls hf (lv_sub hl [1, 0, 2] rfl)
  unfold fX2_darkestHour at hf
  refine lv_iconst (v := 0) hx hb dX2_darkestHour_0 (by decide) ?_
  refine lv_istore_n (lv' := [(1, .int 0), (0, .ref v0)]) hx hb dX2_darkestHour_1 rfl hl (by decide) rfl (fun ls hl => ?_)
  refine lv_iconst (v := 1) hx hb dX2_darkestHour_2 (by decide) ?_
  refine lv_istore_n (lv' := [(2, .int 1), (1, .int 0), (0, .ref v0)]) hx hb dX2_darkestHour_3 rfl hl (by decide) rfl (fun ls hl => ?_)
  exact L4 FU v0 0 1 ls hf (lv_sub hl [2, 1, 0] rfl)
/-! BrickedUpAsBlind.Lamps.brightStretch(II)I -/
def fX2_brightStretch_2 (ρ : Rho) : Nat → Int32 → Int32 → Int32 → Option Int32
  | 0, _, _, _ => none
  | n + 1, v0, v1, v2 =>
    if (24 : Int32) ≤ v2 then (some 24)
    else (if ((v0 >>> (((v1 + v2) - (v1 + v2) / 24 * 24) &&& 31)) &&& 1) = 0 then (fX2_brightStretch_2 ρ n v0 v1 (v2 + 1))
    else (some v2))
def fX2_brightStretch (ρ : Rho) (v0 : Int32) (v1 : Int32) : Option Int32 :=
    fX2_brightStretch_2 ρ FU v0 v1 0
abbrev rX2_brightStretch : Room := { frames := 0, cells := 0, slots := 0, locals := 0 }
theorem hdX2_brightStretch : hdP yX2_brightStretch 2 := by unfold hdP; decide +kernel
set_option maxHeartbeats 4000000 in
set_option maxRecDepth 100000 in
theorem kX2_brightStretch (l : Launch) (G : GD) (ρ : Rho) (v0 : Int32) (v1 : Int32) (r : Int32) (hf : fX2_brightStretch ρ v0 v1 = some r) : RM l G yX2_brightStretch (Cond.code yX2_brightStretch cX2_brightStretch 3 (some .int) :: LW) rX2_brightStretch ρ [.int v0, .int v1] (some (.int r)) := by
  refine RM.ofI (own := RX2) (by decide) rfl (Nat.le_of_ble_eq_true rfl) ?_
  intro p e s m args below meth c H locs Q hx hb hml hown hts hK hR hret ls hl
  replace hl : lv_has ls 3 [(0, .int v0), (1, .int v1)] := hl
  have L2 : ∀ (n : Nat) (v0 : Int32) (v1 : Int32) (v2 : Int32) (ls : Array Slot), fX2_brightStretch_2 ρ n v0 v1 v2 = some r → lv_has ls 3 [(0, .int v0), (1, .int v1), (2, .int v2)] → W p l e rX2_brightStretch s m args below meth c H locs 0 0 Q (F0 m 2 ls []) := by
    intro n
    induction n with
    | zero =>
      intro v0 v1 v2 ls hf
      rw [fX2_brightStretch_2] at hf
      cases hf
    | succ n ih =>
      intro v0 v1 v2 ls hf hl
      rw [fX2_brightStretch_2] at hf
      refine lv_iload_n hx hb dX2_brightStretch_2 rfl (lv_at hl 2 rfl) ?_
      refine lv_bipush (v := 24) hx hb dX2_brightStretch_3 (by decide) ?_
      refine lv_icmp_ge (tgt := 29) hx hb dX2_brightStretch_5 (by decide) (fun c1 => ?_) (fun c1 => ?_)
      · replace hf := (if_pos c1).symm.trans hf
        refine lv_bipush (v := 24) hx hb dX2_brightStretch_29 (by decide) ?_
        exact hret _ _ _ dX2_brightStretch_31 hf
      · replace hf := (if_neg c1).symm.trans hf
        refine lv_iload_n hx hb dX2_brightStretch_8 rfl (lv_at hl 0 rfl) ?_
        refine lv_iload_n hx hb dX2_brightStretch_9 rfl (lv_at hl 1 rfl) ?_
        refine lv_iload_n hx hb dX2_brightStretch_10 rfl (lv_at hl 2 rfl) ?_
        refine lv_iadd hx hb dX2_brightStretch_11 ?_
        refine lv_bipush (v := 24) hx hb dX2_brightStretch_12 (by decide) ?_
        refine lv_irem hx hb dX2_brightStretch_14 (by decide) ?_
        refine lv_ishr hx hb dX2_brightStretch_15 ?_
        refine lv_iconst (v := 1) hx hb dX2_brightStretch_16 (by decide) ?_
        refine lv_iand hx hb dX2_brightStretch_17 ?_
        refine lv_if_eq (tgt := 23) hx hb dX2_brightStretch_18 (by decide) (fun c2 => ?_) (fun c2 => ?_)
        · replace hf := (if_pos c2).symm.trans hf
          refine lv_iinc (v := (v2 + 1)) (lv' := [(2, .int (v2 + 1)), (0, .int v0), (1, .int v1)]) hx hb dX2_brightStretch_23 hl (k := 2) rfl rfl (by decide) rfl (fun ls hl => ?_)
          refine lv_goto (tgt := 2) hx hb dX2_brightStretch_26 (by decide) ?_
          exact ih v0 v1 (v2 + 1) ls hf (lv_sub hl [1, 2, 0] rfl)
        · replace hf := (if_neg c2).symm.trans hf
          refine lv_iload_n hx hb dX2_brightStretch_21 rfl (lv_at hl 2 rfl) ?_
          exact hret _ _ _ dX2_brightStretch_22 hf
  unfold fX2_brightStretch at hf
  refine lv_iconst (v := 0) hx hb dX2_brightStretch_0 (by decide) ?_
  refine lv_istore_n (lv' := [(2, .int 0), (0, .int v0), (1, .int v1)]) hx hb dX2_brightStretch_1 rfl hl (by decide) rfl (fun ls hl => ?_)
  exact L2 FU v0 v1 0 ls hf (lv_sub hl [1, 2, 0] rfl)
/-! BrickedUpAsBlind.Lamps.longestBrightFrom(I)I -/
def fX2_longestBrightFrom_25 (ρ : Rho) (k4 : Int32 → Int32 → Int32 → Option Int32) (v0 : Int32) (v1 : Int32) (v2 : Int32) : Option Int32 :=
    k4 v0 v1 (v2 + 1)
def fX2_longestBrightFrom_4 (ρ : Rho) : Nat → Int32 → Int32 → Int32 → Option Int32
  | 0, _, _, _ => none
  | n + 1, v0, v1, v2 =>
    if (24 : Int32) ≤ v2 then (some v1)
    else ((fX2_brightStretch ρ v0 v2).bind fun x2 =>
    (fX2_brightStretch ρ v0 v1).bind fun x3 =>
    if x2 ≤ x3 then (fX2_longestBrightFrom_25 ρ (fX2_longestBrightFrom_4 ρ n) v0 v1 v2)
    else (fX2_longestBrightFrom_25 ρ (fX2_longestBrightFrom_4 ρ n) v0 v2 v2))
def fX2_longestBrightFrom (ρ : Rho) (v0 : Int32) : Option Int32 :=
    fX2_longestBrightFrom_4 ρ FU v0 0 1
abbrev rX2_longestBrightFrom : Room := { frames := 1, cells := 0, slots := 0, locals := 22 }
theorem hdX2_longestBrightFrom : hdP yX2_longestBrightFrom 1 := by unfold hdP; decide +kernel
set_option maxHeartbeats 4000000 in
set_option maxRecDepth 100000 in
theorem kX2_longestBrightFrom (l : Launch) (G : GD) (ρ : Rho) (v0 : Int32) (r : Int32) (hf : fX2_longestBrightFrom ρ v0 = some r) : RM l G yX2_longestBrightFrom (Cond.code yX2_longestBrightFrom cX2_longestBrightFrom 3 (some .int) :: LW) rX2_longestBrightFrom ρ [.int v0] (some (.int r)) := by
  refine RM.ofI (own := RX2) (by decide) rfl (Nat.le_of_ble_eq_true rfl) ?_
  intro p e s m args below meth c H locs Q hx hb hml hown hts hK hR hret ls hl
  replace hl : lv_has ls 3 [(0, .int v0)] := hl
  have J25 : ∀ (k4 : Int32 → Int32 → Int32 → Option Int32) (_ : ∀ (v0 : Int32) (v1 : Int32) (v2 : Int32) (ls : Array Slot), k4 v0 v1 v2 = some r → lv_has ls 3 [(0, .int v0), (1, .int v1), (2, .int v2)] → W p l e rX2_longestBrightFrom s m args below meth c H locs 0 0 Q (F0 m 4 ls [])), ∀ (v0 : Int32) (v1 : Int32) (v2 : Int32) (ls : Array Slot), fX2_longestBrightFrom_25 ρ k4 v0 v1 v2 = some r → lv_has ls 3 [(0, .int v0), (1, .int v1), (2, .int v2)] → W p l e rX2_longestBrightFrom s m args below meth c H locs 0 0 Q (F0 m 25 ls []) := by
    intro k4 hk4 v0 v1 v2 ls hf hl
    rw [fX2_longestBrightFrom_25] at hf
    refine lv_iinc (v := (v2 + 1)) (lv' := [(2, .int (v2 + 1)), (0, .int v0), (1, .int v1)]) hx hb dX2_longestBrightFrom_25 hl (k := 2) rfl rfl (by decide) rfl (fun ls hl => ?_)
    refine lv_goto (tgt := 4) hx hb dX2_longestBrightFrom_28 (by decide) ?_
    exact hk4 v0 v1 (v2 + 1) ls hf (lv_sub hl [1, 2, 0] rfl)
  have L4 : ∀ (n : Nat) (v0 : Int32) (v1 : Int32) (v2 : Int32) (ls : Array Slot), fX2_longestBrightFrom_4 ρ n v0 v1 v2 = some r → lv_has ls 3 [(0, .int v0), (1, .int v1), (2, .int v2)] → W p l e rX2_longestBrightFrom s m args below meth c H locs 0 0 Q (F0 m 4 ls []) := by
    intro n
    induction n with
    | zero =>
      intro v0 v1 v2 ls hf
      rw [fX2_longestBrightFrom_4] at hf
      cases hf
    | succ n ih =>
      intro v0 v1 v2 ls hf hl
      rw [fX2_longestBrightFrom_4] at hf
      refine lv_iload_n hx hb dX2_longestBrightFrom_4 rfl (lv_at hl 2 rfl) ?_
      refine lv_bipush (v := 24) hx hb dX2_longestBrightFrom_5 (by decide) ?_
      refine lv_icmp_ge (tgt := 31) hx hb dX2_longestBrightFrom_7 (by decide) (fun c1 => ?_) (fun c1 => ?_)
      · replace hf := (if_pos c1).symm.trans hf
        refine lv_iload_n hx hb dX2_longestBrightFrom_31 rfl (lv_at hl 1 rfl) ?_
        exact hret _ _ _ dX2_longestBrightFrom_32 hf
      · replace hf := (if_neg c1).symm.trans hf
        refine lv_iload_n hx hb dX2_longestBrightFrom_10 rfl (lv_at hl 0 rfl) ?_
        refine lv_iload_n hx hb dX2_longestBrightFrom_11 rfl (lv_at hl 2 rfl) ?_
        obtain ⟨x2, h2, hf⟩ := Option.bind_eq_some_iff.mp hf
        refine r_callS (As := [.int v0, .int v2]) (rest := []) (st1 := [.int x2]) ⟨hx, hb, hml, hown, hts⟩ (kX2_brightStretch l G ρ v0 v2 _ h2) (cu_S hts tw_2_163 tw_2_161 tw_2_162 tw_1_9 hdX2_brightStretch rfl rfl ⟨Nat.le_of_ble_eq_true rfl, Nat.le_of_ble_eq_true rfl⟩) hK hR rfl hl.1 rfl (Nat.le_of_ble_eq_true rfl) dX2_longestBrightFrom_12 ⟨Nat.zero_le _, Nat.zero_le _⟩ rfl ?_
        refine lv_iload_n hx hb dX2_longestBrightFrom_15 rfl (lv_at hl 0 rfl) ?_
        refine lv_iload_n hx hb dX2_longestBrightFrom_16 rfl (lv_at hl 1 rfl) ?_
        obtain ⟨x3, h3, hf⟩ := Option.bind_eq_some_iff.mp hf
        refine r_callS (As := [.int v0, .int v1]) (rest := [.int x2]) (st1 := [.int x3, .int x2]) ⟨hx, hb, hml, hown, hts⟩ (kX2_brightStretch l G ρ v0 v1 _ h3) (cu_S hts tw_2_163 tw_2_161 tw_2_162 tw_1_9 hdX2_brightStretch rfl rfl ⟨Nat.le_of_ble_eq_true rfl, Nat.le_of_ble_eq_true rfl⟩) hK hR rfl hl.1 rfl (Nat.le_of_ble_eq_true rfl) dX2_longestBrightFrom_17 ⟨Nat.zero_le _, Nat.zero_le _⟩ rfl ?_
        refine lv_icmp_le (tgt := 25) hx hb dX2_longestBrightFrom_20 (by decide) (fun c4 => ?_) (fun c4 => ?_)
        · replace hf := (if_pos c4).symm.trans hf
          exact J25 _ ih v0 v1 v2 ls hf (lv_sub hl [0, 1, 2] rfl)
        · replace hf := (if_neg c4).symm.trans hf
          refine lv_iload_n hx hb dX2_longestBrightFrom_23 rfl (lv_at hl 2 rfl) ?_
          refine lv_istore_n (lv' := [(1, .int v2), (0, .int v0), (2, .int v2)]) hx hb dX2_longestBrightFrom_24 rfl hl (by decide) rfl (fun ls hl => ?_)
          exact J25 _ ih v0 v2 v2 ls hf (lv_sub hl [1, 0, 2] rfl)
  unfold fX2_longestBrightFrom at hf
  refine lv_iconst (v := 0) hx hb dX2_longestBrightFrom_0 (by decide) ?_
  refine lv_istore_n (lv' := [(1, .int 0), (0, .int v0)]) hx hb dX2_longestBrightFrom_1 rfl hl (by decide) rfl (fun ls hl => ?_)
  refine lv_iconst (v := 1) hx hb dX2_longestBrightFrom_2 (by decide) ?_
  refine lv_istore_n (lv' := [(2, .int 1), (1, .int 0), (0, .int v0)]) hx hb dX2_longestBrightFrom_3 rfl hl (by decide) rfl (fun ls hl => ?_)
  exact L4 FU v0 0 1 ls hf (lv_sub hl [2, 1, 0] rfl)
/-! BrickedUpAsBlind.Lamps.fewestMirrors(LBrickedUpAsBlind$House;)I -/
def fX2_fewestMirrors_45 (ρ : Rho) (k4 : Nat → Int32 → Int32 → Option Int32) (v0 : Nat) (v1 : Int32) (v2 : Int32) : Option Int32 :=
    k4 v0 v1 (v2 + 1)
def fX2_fewestMirrors_4 (ρ : Rho) : Nat → Nat → Int32 → Int32 → Option Int32
  | 0, _, _, _ => none
  | n + 1, v0, v1, v2 =>
    if (4 : Int32) ≤ v2 then (some v1)
    else ((gI ρ 0 v0 7).bind fun x2 =>
    (ckO ρ 0 v0).bind fun x3 =>
    (fX0_lackOf ρ v0 v2 x2).bind fun x4 =>
    (gI ρ 0 v0 7).bind fun x5 =>
    (ckO ρ 0 v0).bind fun x6 =>
    (fX0_roomLight ρ v0 v2 x5).bind fun x7 =>
    if x4 ≤ x7 then (if x4 ≤ 0 then (fX2_fewestMirrors_45 ρ (fX2_fewestMirrors_4 ρ n) v0 v1 v2)
    else (fX2_fewestMirrors_45 ρ (fX2_fewestMirrors_4 ρ n) v0 (v1 ||| ((1 : Int32) <<< (v2 &&& 31))) v2))
    else (some (-4)))
def fX2_fewestMirrors (ρ : Rho) (v0 : Nat) : Option Int32 :=
    fX2_fewestMirrors_4 ρ FU v0 0 0
abbrev rX2_fewestMirrors : Room := { frames := 4, cells := 0, slots := 0, locals := 91 }
theorem hdX2_fewestMirrors : hdP yX2_fewestMirrors 1 := by unfold hdP; decide +kernel
set_option maxHeartbeats 4000000 in
set_option maxRecDepth 100000 in
theorem kX2_fewestMirrors (l : Launch) (G : GD) (ρ : Rho) (v0 : Nat) (r : Int32) (hf : fX2_fewestMirrors ρ v0 = some r) : RM l G yX2_fewestMirrors (Cond.code yX2_fewestMirrors cX2_fewestMirrors 4 (some .int) :: LW) rX2_fewestMirrors ρ [.ref v0] (some (.int r)) := by
  refine RM.ofI (own := RX2) (by decide) rfl (Nat.le_of_ble_eq_true rfl) ?_
  intro p e s m args below meth c H locs Q hx hb hml hown hts hK hR hret ls hl
  replace hl : lv_has ls 4 [(0, .ref v0)] := hl
  have J45 : ∀ (k4 : Nat → Int32 → Int32 → Option Int32) (_ : ∀ (v0 : Nat) (v1 : Int32) (v2 : Int32) (ls : Array Slot), k4 v0 v1 v2 = some r → lv_has ls 4 [(0, .ref v0), (1, .int v1), (2, .int v2)] → W p l e rX2_fewestMirrors s m args below meth c H locs 0 0 Q (F0 m 4 ls [])), ∀ (v0 : Nat) (v1 : Int32) (v2 : Int32) (ls : Array Slot), fX2_fewestMirrors_45 ρ k4 v0 v1 v2 = some r → lv_has ls 4 [(0, .ref v0), (1, .int v1), (2, .int v2)] → W p l e rX2_fewestMirrors s m args below meth c H locs 0 0 Q (F0 m 45 ls []) := by
    intro k4 hk4 v0 v1 v2 ls hf hl
    rw [fX2_fewestMirrors_45] at hf
    refine lv_iinc (v := (v2 + 1)) (lv' := [(2, .int (v2 + 1)), (0, .ref v0), (1, .int v1)]) hx hb dX2_fewestMirrors_45 hl (k := 2) rfl rfl (by decide) rfl (fun ls hl => ?_)
    refine lv_goto (tgt := 4) hx hb dX2_fewestMirrors_48 (by decide) ?_
    exact hk4 v0 v1 (v2 + 1) ls hf (lv_sub hl [1, 2, 0] rfl)
  have L4 : ∀ (n : Nat) (v0 : Nat) (v1 : Int32) (v2 : Int32) (ls : Array Slot), fX2_fewestMirrors_4 ρ n v0 v1 v2 = some r → lv_has ls 4 [(0, .ref v0), (1, .int v1), (2, .int v2)] → W p l e rX2_fewestMirrors s m args below meth c H locs 0 0 Q (F0 m 4 ls []) := by
    intro n
    induction n with
    | zero =>
      intro v0 v1 v2 ls hf
      rw [fX2_fewestMirrors_4] at hf
      cases hf
    | succ n ih =>
      intro v0 v1 v2 ls hf hl
      rw [fX2_fewestMirrors_4] at hf
      refine lv_iload_n hx hb dX2_fewestMirrors_4 rfl (lv_at hl 2 rfl) ?_
      refine lv_iconst (v := 4) hx hb dX2_fewestMirrors_5 (by decide) ?_
      refine lv_icmp_ge (tgt := 51) hx hb dX2_fewestMirrors_6 (by decide) (fun c1 => ?_) (fun c1 => ?_)
      · replace hf := (if_pos c1).symm.trans hf
        refine lv_iload_n hx hb dX2_fewestMirrors_51 rfl (lv_at hl 1 rfl) ?_
        exact hret _ _ _ dX2_fewestMirrors_52 hf
      · replace hf := (if_neg c1).symm.trans hf
        refine lv_aload_n hx hb dX2_fewestMirrors_9 rfl (lv_at hl 0 rfl) ?_
        refine lv_iload_n hx hb dX2_fewestMirrors_10 rfl (lv_at hl 2 rfl) ?_
        refine lv_aload_n hx hb dX2_fewestMirrors_11 rfl (lv_at hl 0 rfl) ?_
        obtain ⟨x2, h2, hf⟩ := Option.bind_eq_some_iff.mp hf
        refine r_gI hx hb hts inX0 hown hK hR rfl 7 (by decide) (hts _ tw_1_60) h2 dX2_fewestMirrors_12 ?_
        obtain ⟨x3, h3, hf⟩ := Option.bind_eq_some_iff.mp hf
        obtain ⟨x4, h4, hf⟩ := Option.bind_eq_some_iff.mp hf
        refine r_callV (As := [.int v2, .int x2]) (rest := []) (st1 := [.int x4]) ⟨hx, hb, hml, hown, hts⟩ (kX0_lackOf l G ρ v0 v2 x2 _ h4) (cu_V hts tw_2_133 tw_2_172 tw_2_131 tw_2_132 tw_1_2 hdX0_lackOf rfl rfl ⟨Nat.le_of_ble_eq_true rfl, Nat.le_of_ble_eq_true rfl⟩) hK hR rfl h3 rfl hl.1 rfl (Nat.le_of_ble_eq_true rfl) dX2_fewestMirrors_15 ⟨Nat.zero_le _, Nat.zero_le _⟩ rfl ?_
        refine lv_istore_n (lv' := [(3, .int x4), (0, .ref v0), (1, .int v1), (2, .int v2)]) hx hb dX2_fewestMirrors_18 rfl hl (by decide) rfl (fun ls hl => ?_)
        refine lv_iload_n hx hb dX2_fewestMirrors_19 rfl (lv_at hl 0 rfl) ?_
        refine lv_aload_n hx hb dX2_fewestMirrors_20 rfl (lv_at hl 1 rfl) ?_
        refine lv_iload_n hx hb dX2_fewestMirrors_21 rfl (lv_at hl 3 rfl) ?_
        refine lv_aload_n hx hb dX2_fewestMirrors_22 rfl (lv_at hl 1 rfl) ?_
        obtain ⟨x5, h5, hf⟩ := Option.bind_eq_some_iff.mp hf
        refine r_gI hx hb hts inX0 hown hK hR rfl 7 (by decide) (hts _ tw_1_60) h5 dX2_fewestMirrors_23 ?_
        obtain ⟨x6, h6, hf⟩ := Option.bind_eq_some_iff.mp hf
        obtain ⟨x7, h7, hf⟩ := Option.bind_eq_some_iff.mp hf
        refine r_callV (As := [.int v2, .int x5]) (rest := [.int x4]) (st1 := [.int x7, .int x4]) ⟨hx, hb, hml, hown, hts⟩ (kX0_roomLight l G ρ v0 v2 x5 _ h7) (cu_V hts tw_2_108 tw_2_173 tw_2_106 tw_2_107 tw_1_2 hdX0_roomLight rfl rfl ⟨Nat.le_of_ble_eq_true rfl, Nat.le_of_ble_eq_true rfl⟩) hK hR rfl h6 rfl hl.1 rfl (Nat.le_of_ble_eq_true rfl) dX2_fewestMirrors_26 ⟨Nat.zero_le _, Nat.zero_le _⟩ rfl ?_
        refine lv_icmp_le (tgt := 35) hx hb dX2_fewestMirrors_29 (by decide) (fun c8 => ?_) (fun c8 => ?_)
        · replace hf := (if_pos c8).symm.trans hf
          refine lv_iload_n hx hb dX2_fewestMirrors_35 rfl (lv_at hl 0 rfl) ?_
          refine lv_if_le (tgt := 45) hx hb dX2_fewestMirrors_36 (by decide) (fun c9 => ?_) (fun c9 => ?_)
          · replace hf := (if_pos c9).symm.trans hf
            exact J45 _ ih v0 v1 v2 ls hf (lv_sub hl [1, 2, 3] rfl)
          · replace hf := (if_neg c9).symm.trans hf
            refine lv_iload_n hx hb dX2_fewestMirrors_39 rfl (lv_at hl 2 rfl) ?_
            refine lv_iconst (v := 1) hx hb dX2_fewestMirrors_40 (by decide) ?_
            refine lv_iload_n hx hb dX2_fewestMirrors_41 rfl (lv_at hl 3 rfl) ?_
            refine lv_ishl hx hb dX2_fewestMirrors_42 ?_
            refine lv_ior hx hb dX2_fewestMirrors_43 ?_
            refine lv_istore_n (lv' := [(1, .int (v1 ||| ((1 : Int32) <<< (v2 &&& 31)))), (3, .int x4), (0, .ref v0), (2, .int v2)]) hx hb dX2_fewestMirrors_44 rfl hl (by decide) rfl (fun ls hl => ?_)
            exact J45 _ ih v0 (v1 ||| ((1 : Int32) <<< (v2 &&& 31))) v2 ls hf (lv_sub hl [2, 0, 3] rfl)
        · replace hf := (if_neg c8).symm.trans hf
          refine lv_bipush (v := (-4)) hx hb dX2_fewestMirrors_32 (by decide) ?_
          exact hret _ _ _ dX2_fewestMirrors_34 hf
  unfold fX2_fewestMirrors at hf
  refine lv_iconst (v := 0) hx hb dX2_fewestMirrors_0 (by decide) ?_
  refine lv_istore_n (lv' := [(1, .int 0), (0, .ref v0)]) hx hb dX2_fewestMirrors_1 rfl hl (by decide) rfl (fun ls hl => ?_)
  refine lv_iconst (v := 0) hx hb dX2_fewestMirrors_2 (by decide) ?_
  refine lv_istore_n (lv' := [(2, .int 0), (1, .int 0), (0, .ref v0)]) hx hb dX2_fewestMirrors_3 rfl hl (by decide) rfl (fun ls hl => ?_)
  exact L4 FU v0 0 0 ls hf (lv_sub hl [2, 1, 0] rfl)
/-! BrickedUpAsBlind.Lamps.dayLight(LBrickedUpAsBlind$House;I)I -/
def fX2_dayLight_4 (ρ : Rho) : Nat → Nat → Int32 → Int32 → Int32 → Option Int32
  | 0, _, _, _, _ => none
  | n + 1, v0, v1, v2, v3 =>
    if (24 : Int32) ≤ v3 then (some v2)
    else ((ckO ρ 0 v0).bind fun x2 =>
    (fX0_roomLight ρ v0 v1 v3).bind fun x3 =>
    fX2_dayLight_4 ρ n v0 v1 (v2 + x3) (v3 + 1))
def fX2_dayLight (ρ : Rho) (v0 : Nat) (v1 : Int32) : Option Int32 :=
    fX2_dayLight_4 ρ FU v0 v1 0 0
abbrev rX2_dayLight : Room := { frames := 3, cells := 0, slots := 0, locals := 69 }
theorem hdX2_dayLight : hdP yX2_dayLight 2 := by unfold hdP; decide +kernel
set_option maxHeartbeats 4000000 in
set_option maxRecDepth 100000 in
theorem kX2_dayLight (l : Launch) (G : GD) (ρ : Rho) (v0 : Nat) (v1 : Int32) (r : Int32) (hf : fX2_dayLight ρ v0 v1 = some r) : RM l G yX2_dayLight (Cond.code yX2_dayLight cX2_dayLight 4 (some .int) :: LW) rX2_dayLight ρ [.ref v0, .int v1] (some (.int r)) := by
  refine RM.ofI (own := RX2) (by decide) rfl (Nat.le_of_ble_eq_true rfl) ?_
  intro p e s m args below meth c H locs Q hx hb hml hown hts hK hR hret ls hl
  replace hl : lv_has ls 4 [(0, .ref v0), (1, .int v1)] := hl
  have L4 : ∀ (n : Nat) (v0 : Nat) (v1 : Int32) (v2 : Int32) (v3 : Int32) (ls : Array Slot), fX2_dayLight_4 ρ n v0 v1 v2 v3 = some r → lv_has ls 4 [(0, .ref v0), (1, .int v1), (2, .int v2), (3, .int v3)] → W p l e rX2_dayLight s m args below meth c H locs 0 0 Q (F0 m 4 ls []) := by
    intro n
    induction n with
    | zero =>
      intro v0 v1 v2 v3 ls hf
      rw [fX2_dayLight_4] at hf
      cases hf
    | succ n ih =>
      intro v0 v1 v2 v3 ls hf hl
      rw [fX2_dayLight_4] at hf
      refine lv_iload_n hx hb dX2_dayLight_4 rfl (lv_at hl 3 rfl) ?_
      refine lv_bipush (v := 24) hx hb dX2_dayLight_5 (by decide) ?_
      refine lv_icmp_ge (tgt := 25) hx hb dX2_dayLight_7 (by decide) (fun c1 => ?_) (fun c1 => ?_)
      · replace hf := (if_pos c1).symm.trans hf
        refine lv_iload_n hx hb dX2_dayLight_25 rfl (lv_at hl 2 rfl) ?_
        exact hret _ _ _ dX2_dayLight_26 hf
      · replace hf := (if_neg c1).symm.trans hf
        refine lv_iload_n hx hb dX2_dayLight_10 rfl (lv_at hl 2 rfl) ?_
        refine lv_aload_n hx hb dX2_dayLight_11 rfl (lv_at hl 0 rfl) ?_
        refine lv_iload_n hx hb dX2_dayLight_12 rfl (lv_at hl 1 rfl) ?_
        refine lv_iload_n hx hb dX2_dayLight_13 rfl (lv_at hl 3 rfl) ?_
        obtain ⟨x2, h2, hf⟩ := Option.bind_eq_some_iff.mp hf
        obtain ⟨x3, h3, hf⟩ := Option.bind_eq_some_iff.mp hf
        refine r_callV (As := [.int v1, .int v3]) (rest := [.int v2]) (st1 := [.int x3, .int v2]) ⟨hx, hb, hml, hown, hts⟩ (kX0_roomLight l G ρ v0 v1 v3 _ h3) (cu_V hts tw_2_108 tw_2_173 tw_2_106 tw_2_107 tw_1_2 hdX0_roomLight rfl rfl ⟨Nat.le_of_ble_eq_true rfl, Nat.le_of_ble_eq_true rfl⟩) hK hR rfl h2 rfl hl.1 rfl (Nat.le_of_ble_eq_true rfl) dX2_dayLight_14 ⟨Nat.zero_le _, Nat.zero_le _⟩ rfl ?_
        refine lv_iadd hx hb dX2_dayLight_17 ?_
        refine lv_istore_n (lv' := [(2, .int (v2 + x3)), (0, .ref v0), (1, .int v1), (3, .int v3)]) hx hb dX2_dayLight_18 rfl hl (by decide) rfl (fun ls hl => ?_)
        refine lv_iinc (v := (v3 + 1)) (lv' := [(3, .int (v3 + 1)), (2, .int (v2 + x3)), (0, .ref v0), (1, .int v1)]) hx hb dX2_dayLight_19 hl (k := 3) rfl rfl (by decide) rfl (fun ls hl => ?_)
        refine lv_goto (tgt := 4) hx hb dX2_dayLight_22 (by decide) ?_
        exact ih v0 v1 (v2 + x3) (v3 + 1) ls hf (lv_sub hl [2, 3, 1, 0] rfl)
  unfold fX2_dayLight at hf
  refine lv_iconst (v := 0) hx hb dX2_dayLight_0 (by decide) ?_
  refine lv_istore_n (lv' := [(2, .int 0), (0, .ref v0), (1, .int v1)]) hx hb dX2_dayLight_1 rfl hl (by decide) rfl (fun ls hl => ?_)
  refine lv_iconst (v := 0) hx hb dX2_dayLight_2 (by decide) ?_
  refine lv_istore_n (lv' := [(3, .int 0), (2, .int 0), (0, .ref v0), (1, .int v1)]) hx hb dX2_dayLight_3 rfl hl (by decide) rfl (fun ls hl => ?_)
  exact L4 FU v0 v1 0 0 ls hf (lv_sub hl [2, 3, 1, 0] rfl)
/-! BrickedUpAsBlind.Lamps.isDarkerAnywhere(LBrickedUpAsBlind$House;LBrickedUpAsBlind$House;)Z -/
def fX2_isDarkerAnywhere_35 (ρ : Rho) (k2 : Nat → Nat → Int32 → Option Int32) (k9 : Nat → Nat → Int32 → Int32 → Option Int32) (v0 : Nat) (v1 : Nat) (v2 : Int32) (v3 : Int32) : Option Int32 :=
    k9 v0 v1 v2 (v3 + 1)
def fX2_isDarkerAnywhere_9 (ρ : Rho) (k2 : Nat → Nat → Int32 → Option Int32) : Nat → Nat → Nat → Int32 → Int32 → Option Int32
  | 0, _, _, _, _ => none
  | n + 1, v0, v1, v2, v3 =>
    if (24 : Int32) ≤ v3 then (k2 v0 v1 (v2 + 1))
    else ((ckO ρ 0 v1).bind fun x2 =>
    (fX0_lackOf ρ v1 v2 v3).bind fun x3 =>
    if x3 ≤ 0 then (fX2_isDarkerAnywhere_35 ρ k2 (fX2_isDarkerAnywhere_9 ρ k2 n) v0 v1 v2 v3)
    else ((ckO ρ 0 v0).bind fun x5 =>
    (fX0_lackOf ρ v0 v2 v3).bind fun x6 =>
    if x6 = 0 then (nb 1)
    else (fX2_isDarkerAnywhere_35 ρ k2 (fX2_isDarkerAnywhere_9 ρ k2 n) v0 v1 v2 v3)))
def fX2_isDarkerAnywhere_2 (ρ : Rho) : Nat → Nat → Nat → Int32 → Option Int32
  | 0, _, _, _ => none
  | n + 1, v0, v1, v2 =>
    if (4 : Int32) ≤ v2 then (nb 0)
    else (fX2_isDarkerAnywhere_9 ρ (fX2_isDarkerAnywhere_2 ρ n) FU v0 v1 v2 0)
def fX2_isDarkerAnywhere (ρ : Rho) (v0 : Nat) (v1 : Nat) : Option Int32 :=
    fX2_isDarkerAnywhere_2 ρ FU v0 v1 0
abbrev rX2_isDarkerAnywhere : Room := { frames := 4, cells := 0, slots := 0, locals := 91 }
theorem hdX2_isDarkerAnywhere : hdP yX2_isDarkerAnywhere 2 := by unfold hdP; decide +kernel
set_option maxHeartbeats 4000000 in
set_option maxRecDepth 100000 in
theorem kX2_isDarkerAnywhere (l : Launch) (G : GD) (ρ : Rho) (v0 : Nat) (v1 : Nat) (r : Int32) (hf : fX2_isDarkerAnywhere ρ v0 v1 = some r) : RM l G yX2_isDarkerAnywhere (Cond.code yX2_isDarkerAnywhere cX2_isDarkerAnywhere 4 (some .boolean) :: LW) rX2_isDarkerAnywhere ρ [.ref v0, .ref v1] (some (.int r)) := by
  refine RM.ofZ (own := RX2) (by decide) rfl (Nat.le_of_ble_eq_true rfl) ?_
  intro p e s m args below meth c H locs Q hx hb hml hown hts hK hR hret ls hl
  replace hl : lv_has ls 4 [(0, .ref v0), (1, .ref v1)] := hl
  have J35 : ∀ (k2 : Nat → Nat → Int32 → Option Int32) (_ : ∀ (v0 : Nat) (v1 : Nat) (v2 : Int32) (ls : Array Slot), k2 v0 v1 v2 = some r → lv_has ls 4 [(0, .ref v0), (1, .ref v1), (2, .int v2)] → W p l e rX2_isDarkerAnywhere s m args below meth c H locs 0 0 Q (F0 m 2 ls [])), ∀ (k9 : Nat → Nat → Int32 → Int32 → Option Int32) (_ : ∀ (v0 : Nat) (v1 : Nat) (v2 : Int32) (v3 : Int32) (ls : Array Slot), k9 v0 v1 v2 v3 = some r → lv_has ls 4 [(0, .ref v0), (1, .ref v1), (2, .int v2), (3, .int v3)] → W p l e rX2_isDarkerAnywhere s m args below meth c H locs 0 0 Q (F0 m 9 ls [])), ∀ (v0 : Nat) (v1 : Nat) (v2 : Int32) (v3 : Int32) (ls : Array Slot), fX2_isDarkerAnywhere_35 ρ k2 k9 v0 v1 v2 v3 = some r → lv_has ls 4 [(0, .ref v0), (1, .ref v1), (2, .int v2), (3, .int v3)] → W p l e rX2_isDarkerAnywhere s m args below meth c H locs 0 0 Q (F0 m 35 ls []) := by
    intro k2 hk2 k9 hk9 v0 v1 v2 v3 ls hf hl
    rw [fX2_isDarkerAnywhere_35] at hf
    refine lv_iinc (v := (v3 + 1)) (lv' := [(3, .int (v3 + 1)), (0, .ref v0), (1, .ref v1), (2, .int v2)]) hx hb dX2_isDarkerAnywhere_35 hl (k := 3) rfl rfl (by decide) rfl (fun ls hl => ?_)
    refine lv_goto (tgt := 9) hx hb dX2_isDarkerAnywhere_38 (by decide) ?_
    exact hk9 v0 v1 v2 (v3 + 1) ls hf (lv_sub hl [1, 2, 3, 0] rfl)
  have L9 : ∀ (k2 : Nat → Nat → Int32 → Option Int32) (_ : ∀ (v0 : Nat) (v1 : Nat) (v2 : Int32) (ls : Array Slot), k2 v0 v1 v2 = some r → lv_has ls 4 [(0, .ref v0), (1, .ref v1), (2, .int v2)] → W p l e rX2_isDarkerAnywhere s m args below meth c H locs 0 0 Q (F0 m 2 ls [])), ∀ (n : Nat) (v0 : Nat) (v1 : Nat) (v2 : Int32) (v3 : Int32) (ls : Array Slot), fX2_isDarkerAnywhere_9 ρ k2 n v0 v1 v2 v3 = some r → lv_has ls 4 [(0, .ref v0), (1, .ref v1), (2, .int v2), (3, .int v3)] → W p l e rX2_isDarkerAnywhere s m args below meth c H locs 0 0 Q (F0 m 9 ls []) := by
    intro k2 hk2 n
    induction n with
    | zero =>
      intro v0 v1 v2 v3 ls hf
      rw [fX2_isDarkerAnywhere_9] at hf
      cases hf
    | succ n ih =>
      intro v0 v1 v2 v3 ls hf hl
      rw [fX2_isDarkerAnywhere_9] at hf
      refine lv_iload_n hx hb dX2_isDarkerAnywhere_9 rfl (lv_at hl 3 rfl) ?_
      refine lv_bipush (v := 24) hx hb dX2_isDarkerAnywhere_10 (by decide) ?_
      refine lv_icmp_ge (tgt := 41) hx hb dX2_isDarkerAnywhere_12 (by decide) (fun c1 => ?_) (fun c1 => ?_)
      · replace hf := (if_pos c1).symm.trans hf
        refine lv_iinc (v := (v2 + 1)) (lv' := [(2, .int (v2 + 1)), (0, .ref v0), (1, .ref v1), (3, .int v3)]) hx hb dX2_isDarkerAnywhere_41 hl (k := 2) rfl rfl (by decide) rfl (fun ls hl => ?_)
        refine lv_goto (tgt := 2) hx hb dX2_isDarkerAnywhere_44 (by decide) ?_
        exact hk2 v0 v1 (v2 + 1) ls hf (lv_sub hl [1, 2, 0] rfl)
      · replace hf := (if_neg c1).symm.trans hf
        refine lv_aload_n hx hb dX2_isDarkerAnywhere_15 rfl (lv_at hl 1 rfl) ?_
        refine lv_iload_n hx hb dX2_isDarkerAnywhere_16 rfl (lv_at hl 2 rfl) ?_
        refine lv_iload_n hx hb dX2_isDarkerAnywhere_17 rfl (lv_at hl 3 rfl) ?_
        obtain ⟨x2, h2, hf⟩ := Option.bind_eq_some_iff.mp hf
        obtain ⟨x3, h3, hf⟩ := Option.bind_eq_some_iff.mp hf
        refine r_callV (As := [.int v2, .int v3]) (rest := []) (st1 := [.int x3]) ⟨hx, hb, hml, hown, hts⟩ (kX0_lackOf l G ρ v1 v2 v3 _ h3) (cu_V hts tw_2_133 tw_2_172 tw_2_131 tw_2_132 tw_1_2 hdX0_lackOf rfl rfl ⟨Nat.le_of_ble_eq_true rfl, Nat.le_of_ble_eq_true rfl⟩) hK hR rfl h2 rfl hl.1 rfl (Nat.le_of_ble_eq_true rfl) dX2_isDarkerAnywhere_18 ⟨Nat.zero_le _, Nat.zero_le _⟩ rfl ?_
        refine lv_if_le (tgt := 35) hx hb dX2_isDarkerAnywhere_21 (by decide) (fun c4 => ?_) (fun c4 => ?_)
        · replace hf := (if_pos c4).symm.trans hf
          exact J35 _ hk2 _ ih v0 v1 v2 v3 ls hf (lv_sub hl [0, 1, 2, 3] rfl)
        · replace hf := (if_neg c4).symm.trans hf
          refine lv_aload_n hx hb dX2_isDarkerAnywhere_24 rfl (lv_at hl 0 rfl) ?_
          refine lv_iload_n hx hb dX2_isDarkerAnywhere_25 rfl (lv_at hl 2 rfl) ?_
          refine lv_iload_n hx hb dX2_isDarkerAnywhere_26 rfl (lv_at hl 3 rfl) ?_
          obtain ⟨x5, h5, hf⟩ := Option.bind_eq_some_iff.mp hf
          obtain ⟨x6, h6, hf⟩ := Option.bind_eq_some_iff.mp hf
          refine r_callV (As := [.int v2, .int v3]) (rest := []) (st1 := [.int x6]) ⟨hx, hb, hml, hown, hts⟩ (kX0_lackOf l G ρ v0 v2 v3 _ h6) (cu_V hts tw_2_133 tw_2_172 tw_2_131 tw_2_132 tw_1_2 hdX0_lackOf rfl rfl ⟨Nat.le_of_ble_eq_true rfl, Nat.le_of_ble_eq_true rfl⟩) hK hR rfl h5 rfl hl.1 rfl (Nat.le_of_ble_eq_true rfl) dX2_isDarkerAnywhere_27 ⟨Nat.zero_le _, Nat.zero_le _⟩ rfl ?_
          refine lv_if_ne (tgt := 35) hx hb dX2_isDarkerAnywhere_30 (by decide) (fun c7 => ?_) (fun c7 => ?_)
          · replace hf := (if_neg c7).symm.trans hf
            exact J35 _ hk2 _ ih v0 v1 v2 v3 ls hf (lv_sub hl [0, 1, 2, 3] rfl)
          · replace hf := (if_pos c7).symm.trans hf
            refine lv_iconst (v := 1) hx hb dX2_isDarkerAnywhere_33 (by decide) ?_
            exact hret _ _ _ dX2_isDarkerAnywhere_34 hf
  have L2 : ∀ (n : Nat) (v0 : Nat) (v1 : Nat) (v2 : Int32) (ls : Array Slot), fX2_isDarkerAnywhere_2 ρ n v0 v1 v2 = some r → lv_has ls 4 [(0, .ref v0), (1, .ref v1), (2, .int v2)] → W p l e rX2_isDarkerAnywhere s m args below meth c H locs 0 0 Q (F0 m 2 ls []) := by
    intro n
    induction n with
    | zero =>
      intro v0 v1 v2 ls hf
      rw [fX2_isDarkerAnywhere_2] at hf
      cases hf
    | succ n ih =>
      intro v0 v1 v2 ls hf hl
      rw [fX2_isDarkerAnywhere_2] at hf
      refine lv_iload_n hx hb dX2_isDarkerAnywhere_2 rfl (lv_at hl 2 rfl) ?_
      refine lv_iconst (v := 4) hx hb dX2_isDarkerAnywhere_3 (by decide) ?_
      refine lv_icmp_ge (tgt := 47) hx hb dX2_isDarkerAnywhere_4 (by decide) (fun c8 => ?_) (fun c8 => ?_)
      · replace hf := (if_pos c8).symm.trans hf
        refine lv_iconst (v := 0) hx hb dX2_isDarkerAnywhere_47 (by decide) ?_
        exact hret _ _ _ dX2_isDarkerAnywhere_48 hf
      · replace hf := (if_neg c8).symm.trans hf
        refine lv_iconst (v := 0) hx hb dX2_isDarkerAnywhere_7 (by decide) ?_
        refine lv_istore_n (lv' := [(3, .int 0), (0, .ref v0), (1, .ref v1), (2, .int v2)]) hx hb dX2_isDarkerAnywhere_8 rfl hl (by decide) rfl (fun ls hl => ?_)
        exact L9 _ ih FU v0 v1 v2 0 ls hf (lv_sub hl [1, 2, 3, 0] rfl)
  unfold fX2_isDarkerAnywhere at hf
  refine lv_iconst (v := 0) hx hb dX2_isDarkerAnywhere_0 (by decide) ?_
  refine lv_istore_n (lv' := [(2, .int 0), (0, .ref v0), (1, .ref v1)]) hx hb dX2_isDarkerAnywhere_1 rfl hl (by decide) rfl (fun ls hl => ?_)
  exact L2 FU v0 v1 0 ls hf (lv_sub hl [1, 2, 0] rfl)
/-! BrickedUpAsBlind.Lamps.mostStopped(LBrickedUpAsBlind$House;LBrickedUpAsBlind$House;)I -/
def fX2_mostStopped_42 (k4 : Rho → Nat → Nat → Int32 → Int32 → Option (Int32 × Rho)) (ρ : Rho) (v0 : Nat) (v1 : Nat) (v2 : Int32) (v3 : Int32) : Option (Int32 × Rho) :=
    k4 ρ v0 v1 v2 (v3 + 1)
def fX2_mostStopped_4 : Nat → Rho → Nat → Nat → Int32 → Int32 → Option (Int32 × Rho)
  | 0, _, _, _, _, _ => none
  | n + 1, ρ, v0, v1, v2, v3 =>
    (gI ρ 0 v0 5).bind fun x1 =>
    if ((1 : Int32) <<< (x1 &&& 31)) ≤ v3 then (some (v2, ρ))
    else ((ptV ρ 0 v1 6 (.int v3)).bind fun x3 =>
    (fJ6_bitCount x3 v3).bind fun x4 =>
    if x4 ≤ v2 then (fX2_mostStopped_42 (fX2_mostStopped_4 n) x3 v0 v1 v2 v3)
    else ((fX2_isDarkerAnywhere x3 v0 v1).bind fun x6 =>
    if x6 = 0 then (fX2_mostStopped_42 (fX2_mostStopped_4 n) x3 v0 v1 x4 v3)
    else (fX2_mostStopped_42 (fX2_mostStopped_4 n) x3 v0 v1 v2 v3)))
def fX2_mostStopped (ρ : Rho) (v0 : Nat) (v1 : Nat) : Option (Int32 × Rho) :=
    fX2_mostStopped_4 FU ρ v0 v1 0 0
abbrev rX2_mostStopped : Room := { frames := 5, cells := 0, slots := 0, locals := 114 }
theorem hdX2_mostStopped : hdP yX2_mostStopped 2 := by unfold hdP; decide +kernel
set_option maxHeartbeats 4000000 in
set_option maxRecDepth 100000 in
theorem kX2_mostStopped (l : Launch) (G : GD) (ρ : Rho) (v0 : Nat) (v1 : Nat) (r0 : Int32) (ρ1 : Rho) (hf : fX2_mostStopped ρ v0 v1 = some (r0, ρ1)) : WM l G yX2_mostStopped (Cond.code yX2_mostStopped cX2_mostStopped 5 (some .int) :: LW) rX2_mostStopped ρ [.ref v0, .ref v1] (some (.int r0)) ρ1 := by
  obtain ⟨r, hr⟩ : ∃ r, r = (r0, ρ1) := ⟨_, rfl⟩
  rw [← hr] at hf
  refine WM.ofI (own := RX2) (r := r) hr (by decide) rfl (Nat.le_of_ble_eq_true rfl) ?_
  intro p e s m args below meth c H locs Q hx hb hml hown hts hK hR hS hret ls hl
  obtain ⟨ρ0, hρ0⟩ : ∃ z, z = ρ := ⟨_, rfl⟩
  rw [← hρ0] at hret
  replace hS : WS ρ0 s.heap ρ H locs := hρ0 ▸ hS
  replace hl : lv_has ls 5 [(0, .ref v0), (1, .ref v1)] := hl
  have J42 : ∀ (k4 : Rho → Nat → Nat → Int32 → Int32 → Option (Int32 × Rho)) (_ : ∀ (ρ : Rho) (v0 : Nat) (v1 : Nat) (v2 : Int32) (v3 : Int32) (H : Heap) (locs : List Loc) (ls : Array Slot), k4 ρ v0 v1 v2 v3 = some r → lv_has ls 5 [(0, .ref v0), (1, .ref v1), (2, .int v2), (3, .int v3)] → RW G ρ H → WS ρ0 s.heap ρ H locs → W p l e rX2_mostStopped s m args below meth c H locs 0 0 Q (F0 m 4 ls [])), ∀ (ρ : Rho) (v0 : Nat) (v1 : Nat) (v2 : Int32) (v3 : Int32) (H : Heap) (locs : List Loc) (ls : Array Slot), fX2_mostStopped_42 k4 ρ v0 v1 v2 v3 = some r → lv_has ls 5 [(0, .ref v0), (1, .ref v1), (2, .int v2), (3, .int v3)] → RW G ρ H → WS ρ0 s.heap ρ H locs → W p l e rX2_mostStopped s m args below meth c H locs 0 0 Q (F0 m 42 ls []) := by
    intro k4 hk4 ρ v0 v1 v2 v3 H locs ls hf hl hR hS
    rw [fX2_mostStopped_42] at hf
    refine lv_iinc (v := (v3 + 1)) (lv' := [(3, .int (v3 + 1)), (0, .ref v0), (1, .ref v1), (2, .int v2)]) hx hb dX2_mostStopped_42 hl (k := 3) rfl rfl (by decide) rfl (fun ls hl => ?_)
    refine lv_goto (tgt := 4) hx hb dX2_mostStopped_45 (by decide) ?_
    exact hk4 ρ v0 v1 v2 (v3 + 1) H locs ls hf (lv_sub hl [1, 2, 3, 0] rfl) hR hS
  have L4 : ∀ (n : Nat) (ρ : Rho) (v0 : Nat) (v1 : Nat) (v2 : Int32) (v3 : Int32) (H : Heap) (locs : List Loc) (ls : Array Slot), fX2_mostStopped_4 n ρ v0 v1 v2 v3 = some r → lv_has ls 5 [(0, .ref v0), (1, .ref v1), (2, .int v2), (3, .int v3)] → RW G ρ H → WS ρ0 s.heap ρ H locs → W p l e rX2_mostStopped s m args below meth c H locs 0 0 Q (F0 m 4 ls []) := by
    intro n
    induction n with
    | zero =>
      intro ρ v0 v1 v2 v3 H locs ls hf
      rw [fX2_mostStopped_4] at hf
      cases hf
    | succ n ih =>
      intro ρ v0 v1 v2 v3 H locs ls hf hl hR hS
      rw [fX2_mostStopped_4] at hf
      refine lv_iload_n hx hb dX2_mostStopped_4 rfl (lv_at hl 3 rfl) ?_
      refine lv_iconst (v := 1) hx hb dX2_mostStopped_5 (by decide) ?_
      refine lv_aload_n hx hb dX2_mostStopped_6 rfl (lv_at hl 0 rfl) ?_
      obtain ⟨x1, h1, hf⟩ := Option.bind_eq_some_iff.mp hf
      refine r_gI hx hb hts inX0 hown hK hR rfl 5 (by decide) (hts _ tw_1_49) h1 dX2_mostStopped_7 ?_
      refine lv_ishl hx hb dX2_mostStopped_10 ?_
      refine lv_icmp_ge (tgt := 48) hx hb dX2_mostStopped_11 (by decide) (fun c2 => ?_) (fun c2 => ?_)
      · replace hf := (if_pos c2).symm.trans hf
        refine lv_iload_n hx hb dX2_mostStopped_48 rfl (lv_at hl 2 rfl) ?_
        exact hret _ _ _ _ _ _ dX2_mostStopped_49 hR hS hf
      · replace hf := (if_neg c2).symm.trans hf
        refine lv_aload_n hx hb dX2_mostStopped_14 rfl (lv_at hl 1 rfl) ?_
        refine lv_iload_n hx hb dX2_mostStopped_15 rfl (lv_at hl 3 rfl) ?_
        obtain ⟨x3, h3, hf⟩ := Option.bind_eq_some_iff.mp hf
        refine w_ptV hx hb hts inX0 tyX0 tyX0_ok nmX0 hown hK hR hS rfl 6 (by decide) (hts _ tw_1_56) rfl (ty := .int) rfl rfl rfl h3 dX2_mostStopped_16 (fun H locs hR hS => ?_)
        refine lv_iload_n hx hb dX2_mostStopped_19 rfl (lv_at hl 3 rfl) ?_
        obtain ⟨x4, h4, hf⟩ := Option.bind_eq_some_iff.mp hf
        refine r_callS (As := [.int v3]) (rest := []) (st1 := [.int x4]) ⟨hx, hb, hml, hown, hts⟩ (kJ6_bitCount l G x3 v3 _ h4) (cu_S hts tw_2_198 tw_2_196 tw_2_197 tw_1_11 hdJ6_bitCount rfl rfl ⟨Nat.le_of_ble_eq_true rfl, Nat.le_of_ble_eq_true rfl⟩) hK hR rfl hl.1 rfl (Nat.le_of_ble_eq_true rfl) dX2_mostStopped_20 ⟨Nat.zero_le _, Nat.zero_le _⟩ rfl ?_
        refine lv_istore (lv' := [(4, .int x4), (0, .ref v0), (1, .ref v1), (2, .int v2), (3, .int v3)]) hx hb dX2_mostStopped_23 hl (by decide) rfl (fun ls hl => ?_)
        refine lv_iload hx hb dX2_mostStopped_25 (lv_at hl 0 rfl) ?_
        refine lv_iload_n hx hb dX2_mostStopped_27 rfl (lv_at hl 3 rfl) ?_
        refine lv_icmp_le (tgt := 42) hx hb dX2_mostStopped_28 (by decide) (fun c5 => ?_) (fun c5 => ?_)
        · replace hf := (if_pos c5).symm.trans hf
          exact J42 _ ih x3 v0 v1 v2 v3 H locs ls hf (lv_sub hl [1, 2, 3, 4] rfl) hR hS
        · replace hf := (if_neg c5).symm.trans hf
          refine lv_aload_n hx hb dX2_mostStopped_31 rfl (lv_at hl 1 rfl) ?_
          refine lv_aload_n hx hb dX2_mostStopped_32 rfl (lv_at hl 2 rfl) ?_
          obtain ⟨x6, h6, hf⟩ := Option.bind_eq_some_iff.mp hf
          refine r_callS (As := [.ref v0, .ref v1]) (rest := []) (st1 := [.int x6]) ⟨hx, hb, hml, hown, hts⟩ (kX2_isDarkerAnywhere l G x3 v0 v1 _ h6) (cu_S hts tw_2_204 tw_2_202 tw_2_203 tw_1_9 hdX2_isDarkerAnywhere rfl rfl ⟨Nat.le_of_ble_eq_true rfl, Nat.le_of_ble_eq_true rfl⟩) hK hR rfl hl.1 rfl (Nat.le_of_ble_eq_true rfl) dX2_mostStopped_33 ⟨Nat.zero_le _, Nat.zero_le _⟩ rfl ?_
          refine lv_if_ne (tgt := 42) hx hb dX2_mostStopped_36 (by decide) (fun c7 => ?_) (fun c7 => ?_)
          · replace hf := (if_neg c7).symm.trans hf
            exact J42 _ ih x3 v0 v1 v2 v3 H locs ls hf (lv_sub hl [1, 2, 3, 4] rfl) hR hS
          · replace hf := (if_pos c7).symm.trans hf
            refine lv_iload hx hb dX2_mostStopped_39 (lv_at hl 0 rfl) ?_
            refine lv_istore_n (lv' := [(2, .int x4), (4, .int x4), (0, .ref v0), (1, .ref v1), (3, .int v3)]) hx hb dX2_mostStopped_41 rfl hl (by decide) rfl (fun ls hl => ?_)
            exact J42 _ ih x3 v0 v1 x4 v3 H locs ls hf (lv_sub hl [2, 3, 0, 4] rfl) hR hS
  unfold fX2_mostStopped at hf
  refine lv_iconst (v := 0) hx hb dX2_mostStopped_0 (by decide) ?_
  refine lv_istore_n (lv' := [(2, .int 0), (0, .ref v0), (1, .ref v1)]) hx hb dX2_mostStopped_1 rfl hl (by decide) rfl (fun ls hl => ?_)
  refine lv_iconst (v := 0) hx hb dX2_mostStopped_2 (by decide) ?_
  refine lv_istore_n (lv' := [(3, .int 0), (2, .int 0), (0, .ref v0), (1, .ref v1)]) hx hb dX2_mostStopped_3 rfl hl (by decide) rfl (fun ls hl => ?_)
  exact L4 FU ρ v0 v1 0 0 H locs ls hf (lv_sub hl [2, 3, 1, 0] rfl) hR hS
/-! BrickedUpAsBlind.Watch.liveliestHour(LBrickedUpAsBlind$House;)I -/
def fX8_liveliestHour_25 (ρ : Rho) (k4 : Nat → Int32 → Int32 → Option Int32) (v0 : Nat) (v1 : Int32) (v2 : Int32) : Option Int32 :=
    k4 v0 v1 (v2 + 1)
def fX8_liveliestHour_4 (ρ : Rho) : Nat → Nat → Int32 → Int32 → Option Int32
  | 0, _, _, _ => none
  | n + 1, v0, v1, v2 =>
    if (24 : Int32) ≤ v2 then (some v1)
    else ((ckO ρ 0 v0).bind fun x2 =>
    (fX0_movingAt ρ v0 v2).bind fun x3 =>
    (ckO ρ 0 v0).bind fun x4 =>
    (fX0_movingAt ρ v0 v1).bind fun x5 =>
    if x3 ≤ x5 then (fX8_liveliestHour_25 ρ (fX8_liveliestHour_4 ρ n) v0 v1 v2)
    else (fX8_liveliestHour_25 ρ (fX8_liveliestHour_4 ρ n) v0 v2 v2))
def fX8_liveliestHour (ρ : Rho) (v0 : Nat) : Option Int32 :=
    fX8_liveliestHour_4 ρ FU v0 0 1
abbrev rX8_liveliestHour : Room := { frames := 3, cells := 0, slots := 0, locals := 68 }
theorem hdX8_liveliestHour : hdP yX8_liveliestHour 1 := by unfold hdP; decide +kernel
set_option maxHeartbeats 4000000 in
set_option maxRecDepth 100000 in
theorem kX8_liveliestHour (l : Launch) (G : GD) (ρ : Rho) (v0 : Nat) (r : Int32) (hf : fX8_liveliestHour ρ v0 = some r) : RM l G yX8_liveliestHour (Cond.code yX8_liveliestHour cX8_liveliestHour 3 (some .int) :: LW) rX8_liveliestHour ρ [.ref v0] (some (.int r)) := by
  refine RM.ofI (own := RX8) (by decide) rfl (Nat.le_of_ble_eq_true rfl) ?_
  intro p e s m args below meth c H locs Q hx hb hml hown hts hK hR hret ls hl
  replace hl : lv_has ls 3 [(0, .ref v0)] := hl
  have J25 : ∀ (k4 : Nat → Int32 → Int32 → Option Int32) (_ : ∀ (v0 : Nat) (v1 : Int32) (v2 : Int32) (ls : Array Slot), k4 v0 v1 v2 = some r → lv_has ls 3 [(0, .ref v0), (1, .int v1), (2, .int v2)] → W p l e rX8_liveliestHour s m args below meth c H locs 0 0 Q (F0 m 4 ls [])), ∀ (v0 : Nat) (v1 : Int32) (v2 : Int32) (ls : Array Slot), fX8_liveliestHour_25 ρ k4 v0 v1 v2 = some r → lv_has ls 3 [(0, .ref v0), (1, .int v1), (2, .int v2)] → W p l e rX8_liveliestHour s m args below meth c H locs 0 0 Q (F0 m 25 ls []) := by
    intro k4 hk4 v0 v1 v2 ls hf hl
    rw [fX8_liveliestHour_25] at hf
    refine lv_iinc (v := (v2 + 1)) (lv' := [(2, .int (v2 + 1)), (0, .ref v0), (1, .int v1)]) hx hb dX8_liveliestHour_25 hl (k := 2) rfl rfl (by decide) rfl (fun ls hl => ?_)
    refine lv_goto (tgt := 4) hx hb dX8_liveliestHour_28 (by decide) ?_
    exact hk4 v0 v1 (v2 + 1) ls hf (lv_sub hl [1, 2, 0] rfl)
  have L4 : ∀ (n : Nat) (v0 : Nat) (v1 : Int32) (v2 : Int32) (ls : Array Slot), fX8_liveliestHour_4 ρ n v0 v1 v2 = some r → lv_has ls 3 [(0, .ref v0), (1, .int v1), (2, .int v2)] → W p l e rX8_liveliestHour s m args below meth c H locs 0 0 Q (F0 m 4 ls []) := by
    intro n
    induction n with
    | zero =>
      intro v0 v1 v2 ls hf
      rw [fX8_liveliestHour_4] at hf
      cases hf
    | succ n ih =>
      intro v0 v1 v2 ls hf hl
      rw [fX8_liveliestHour_4] at hf
      refine lv_iload_n hx hb dX8_liveliestHour_4 rfl (lv_at hl 2 rfl) ?_
      refine lv_bipush (v := 24) hx hb dX8_liveliestHour_5 (by decide) ?_
      refine lv_icmp_ge (tgt := 31) hx hb dX8_liveliestHour_7 (by decide) (fun c1 => ?_) (fun c1 => ?_)
      · replace hf := (if_pos c1).symm.trans hf
        refine lv_iload_n hx hb dX8_liveliestHour_31 rfl (lv_at hl 1 rfl) ?_
        exact hret _ _ _ dX8_liveliestHour_32 hf
      · replace hf := (if_neg c1).symm.trans hf
        refine lv_aload_n hx hb dX8_liveliestHour_10 rfl (lv_at hl 0 rfl) ?_
        refine lv_iload_n hx hb dX8_liveliestHour_11 rfl (lv_at hl 2 rfl) ?_
        obtain ⟨x2, h2, hf⟩ := Option.bind_eq_some_iff.mp hf
        obtain ⟨x3, h3, hf⟩ := Option.bind_eq_some_iff.mp hf
        refine r_callV (As := [.int v2]) (rest := []) (st1 := [.int x3]) ⟨hx, hb, hml, hown, hts⟩ (kX0_movingAt l G ρ v0 v2 _ h3) (cu_V hts tw_2_237 tw_2_234 tw_2_235 tw_2_236 tw_1_2 hdX0_movingAt rfl rfl ⟨Nat.le_of_ble_eq_true rfl, Nat.le_of_ble_eq_true rfl⟩) hK hR rfl h2 rfl hl.1 rfl (Nat.le_of_ble_eq_true rfl) dX8_liveliestHour_12 ⟨Nat.zero_le _, Nat.zero_le _⟩ rfl ?_
        refine lv_aload_n hx hb dX8_liveliestHour_15 rfl (lv_at hl 0 rfl) ?_
        refine lv_iload_n hx hb dX8_liveliestHour_16 rfl (lv_at hl 1 rfl) ?_
        obtain ⟨x4, h4, hf⟩ := Option.bind_eq_some_iff.mp hf
        obtain ⟨x5, h5, hf⟩ := Option.bind_eq_some_iff.mp hf
        refine r_callV (As := [.int v1]) (rest := [.int x3]) (st1 := [.int x5, .int x3]) ⟨hx, hb, hml, hown, hts⟩ (kX0_movingAt l G ρ v0 v1 _ h5) (cu_V hts tw_2_237 tw_2_234 tw_2_235 tw_2_236 tw_1_2 hdX0_movingAt rfl rfl ⟨Nat.le_of_ble_eq_true rfl, Nat.le_of_ble_eq_true rfl⟩) hK hR rfl h4 rfl hl.1 rfl (Nat.le_of_ble_eq_true rfl) dX8_liveliestHour_17 ⟨Nat.zero_le _, Nat.zero_le _⟩ rfl ?_
        refine lv_icmp_le (tgt := 25) hx hb dX8_liveliestHour_20 (by decide) (fun c6 => ?_) (fun c6 => ?_)
        · replace hf := (if_pos c6).symm.trans hf
          exact J25 _ ih v0 v1 v2 ls hf (lv_sub hl [0, 1, 2] rfl)
        · replace hf := (if_neg c6).symm.trans hf
          refine lv_iload_n hx hb dX8_liveliestHour_23 rfl (lv_at hl 2 rfl) ?_
          refine lv_istore_n (lv' := [(1, .int v2), (0, .ref v0), (2, .int v2)]) hx hb dX8_liveliestHour_24 rfl hl (by decide) rfl (fun ls hl => ?_)
          exact J25 _ ih v0 v2 v2 ls hf (lv_sub hl [1, 0, 2] rfl)
  unfold fX8_liveliestHour at hf
  refine lv_iconst (v := 0) hx hb dX8_liveliestHour_0 (by decide) ?_
  refine lv_istore_n (lv' := [(1, .int 0), (0, .ref v0)]) hx hb dX8_liveliestHour_1 rfl hl (by decide) rfl (fun ls hl => ?_)
  refine lv_iconst (v := 1) hx hb dX8_liveliestHour_2 (by decide) ?_
  refine lv_istore_n (lv' := [(2, .int 1), (1, .int 0), (0, .ref v0)]) hx hb dX8_liveliestHour_3 rfl hl (by decide) rfl (fun ls hl => ?_)
  exact L4 FU v0 0 1 ls hf (lv_sub hl [2, 1, 0] rfl)
/-! BrickedUpAsBlind.Watch.takenForTrue(LBrickedUpAsBlind$House;I)I -/
def fX8_takenForTrue_51 (ρ : Rho) (k4 : Nat → Int32 → Int32 → Int32 → Option Int32) (v0 : Nat) (v1 : Int32) (v2 : Int32) (v3 : Int32) : Option Int32 :=
    k4 v0 v1 v2 (v3 + 1)
def fX8_takenForTrue_4 (ρ : Rho) : Nat → Nat → Int32 → Int32 → Int32 → Option Int32
  | 0, _, _, _, _ => none
  | n + 1, v0, v1, v2, v3 =>
    (gI ρ 0 v0 5).bind fun x1 =>
    if x1 ≤ v3 then (some v2)
    else ((ckO ρ 0 v0).bind fun x3 =>
    (fX0_isStopped ρ v0 v3).bind fun x4 =>
    if x4 = 0 then ((gI ρ 0 v0 7).bind fun x6 =>
    (ckO ρ 0 v0).bind fun x7 =>
    (fX0_seemingOf ρ v0 v3 x6).bind fun x8 =>
    if x8 < v1 then (fX8_takenForTrue_51 ρ (fX8_takenForTrue_4 ρ n) v0 v1 v2 v3)
    else ((gI ρ 0 v0 7).bind fun x10 =>
    (ckO ρ 0 v0).bind fun x11 =>
    (fX0_shineOf ρ v0 v3 x10).bind fun x12 =>
    if x12 = 0 then (fX8_takenForTrue_51 ρ (fX8_takenForTrue_4 ρ n) v0 v1 (v2 ||| ((1 : Int32) <<< (v3 &&& 31))) v3)
    else (fX8_takenForTrue_51 ρ (fX8_takenForTrue_4 ρ n) v0 v1 v2 v3)))
    else (fX8_takenForTrue_51 ρ (fX8_takenForTrue_4 ρ n) v0 v1 v2 v3))
def fX8_takenForTrue (ρ : Rho) (v0 : Nat) (v1 : Int32) : Option Int32 :=
    fX8_takenForTrue_4 ρ FU v0 v1 0 0
abbrev rX8_takenForTrue : Room := { frames := 4, cells := 0, slots := 0, locals := 132 }
theorem hdX8_takenForTrue : hdP yX8_takenForTrue 2 := by unfold hdP; decide +kernel
set_option maxHeartbeats 4000000 in
set_option maxRecDepth 100000 in
theorem kX8_takenForTrue (l : Launch) (G : GD) (ρ : Rho) (v0 : Nat) (v1 : Int32) (r : Int32) (hf : fX8_takenForTrue ρ v0 v1 = some r) : RM l G yX8_takenForTrue (Cond.code yX8_takenForTrue cX8_takenForTrue 4 (some .int) :: LW) rX8_takenForTrue ρ [.ref v0, .int v1] (some (.int r)) := by
  refine RM.ofI (own := RX8) (by decide) rfl (Nat.le_of_ble_eq_true rfl) ?_
  intro p e s m args below meth c H locs Q hx hb hml hown hts hK hR hret ls hl
  replace hl : lv_has ls 4 [(0, .ref v0), (1, .int v1)] := hl
  have J51 : ∀ (k4 : Nat → Int32 → Int32 → Int32 → Option Int32) (_ : ∀ (v0 : Nat) (v1 : Int32) (v2 : Int32) (v3 : Int32) (ls : Array Slot), k4 v0 v1 v2 v3 = some r → lv_has ls 4 [(0, .ref v0), (1, .int v1), (2, .int v2), (3, .int v3)] → W p l e rX8_takenForTrue s m args below meth c H locs 0 0 Q (F0 m 4 ls [])), ∀ (v0 : Nat) (v1 : Int32) (v2 : Int32) (v3 : Int32) (ls : Array Slot), fX8_takenForTrue_51 ρ k4 v0 v1 v2 v3 = some r → lv_has ls 4 [(0, .ref v0), (1, .int v1), (2, .int v2), (3, .int v3)] → W p l e rX8_takenForTrue s m args below meth c H locs 0 0 Q (F0 m 51 ls []) := by
    intro k4 hk4 v0 v1 v2 v3 ls hf hl
    rw [fX8_takenForTrue_51] at hf
    refine lv_iinc (v := (v3 + 1)) (lv' := [(3, .int (v3 + 1)), (0, .ref v0), (1, .int v1), (2, .int v2)]) hx hb dX8_takenForTrue_51 hl (k := 3) rfl rfl (by decide) rfl (fun ls hl => ?_)
    refine lv_goto (tgt := 4) hx hb dX8_takenForTrue_54 (by decide) ?_
    exact hk4 v0 v1 v2 (v3 + 1) ls hf (lv_sub hl [1, 2, 3, 0] rfl)
  have L4 : ∀ (n : Nat) (v0 : Nat) (v1 : Int32) (v2 : Int32) (v3 : Int32) (ls : Array Slot), fX8_takenForTrue_4 ρ n v0 v1 v2 v3 = some r → lv_has ls 4 [(0, .ref v0), (1, .int v1), (2, .int v2), (3, .int v3)] → W p l e rX8_takenForTrue s m args below meth c H locs 0 0 Q (F0 m 4 ls []) := by
    intro n
    induction n with
    | zero =>
      intro v0 v1 v2 v3 ls hf
      rw [fX8_takenForTrue_4] at hf
      cases hf
    | succ n ih =>
      intro v0 v1 v2 v3 ls hf hl
      rw [fX8_takenForTrue_4] at hf
      refine lv_iload_n hx hb dX8_takenForTrue_4 rfl (lv_at hl 3 rfl) ?_
      refine lv_aload_n hx hb dX8_takenForTrue_5 rfl (lv_at hl 0 rfl) ?_
      obtain ⟨x1, h1, hf⟩ := Option.bind_eq_some_iff.mp hf
      refine r_gI hx hb hts inX0 hown hK hR rfl 5 (by decide) (hts _ tw_1_52) h1 dX8_takenForTrue_6 ?_
      refine lv_icmp_ge (tgt := 57) hx hb dX8_takenForTrue_9 (by decide) (fun c2 => ?_) (fun c2 => ?_)
      · replace hf := (if_pos c2).symm.trans hf
        refine lv_iload_n hx hb dX8_takenForTrue_57 rfl (lv_at hl 2 rfl) ?_
        exact hret _ _ _ dX8_takenForTrue_58 hf
      · replace hf := (if_neg c2).symm.trans hf
        refine lv_aload_n hx hb dX8_takenForTrue_12 rfl (lv_at hl 0 rfl) ?_
        refine lv_iload_n hx hb dX8_takenForTrue_13 rfl (lv_at hl 3 rfl) ?_
        obtain ⟨x3, h3, hf⟩ := Option.bind_eq_some_iff.mp hf
        obtain ⟨x4, h4, hf⟩ := Option.bind_eq_some_iff.mp hf
        refine r_callV (As := [.int v3]) (rest := []) (st1 := [.int x4]) ⟨hx, hb, hml, hown, hts⟩ (kX0_isStopped l G ρ v0 v3 _ h4) (cu_V hts tw_1_225 tw_2_216 tw_1_223 tw_1_224 tw_1_2 hdX0_isStopped rfl rfl ⟨Nat.le_of_ble_eq_true rfl, Nat.le_of_ble_eq_true rfl⟩) hK hR rfl h3 rfl hl.1 rfl (Nat.le_of_ble_eq_true rfl) dX8_takenForTrue_14 ⟨Nat.zero_le _, Nat.zero_le _⟩ rfl ?_
        refine lv_if_ne (tgt := 51) hx hb dX8_takenForTrue_17 (by decide) (fun c5 => ?_) (fun c5 => ?_)
        · replace hf := (if_neg c5).symm.trans hf
          exact J51 _ ih v0 v1 v2 v3 ls hf (lv_sub hl [0, 1, 2, 3] rfl)
        · replace hf := (if_pos c5).symm.trans hf
          refine lv_aload_n hx hb dX8_takenForTrue_20 rfl (lv_at hl 0 rfl) ?_
          refine lv_iload_n hx hb dX8_takenForTrue_21 rfl (lv_at hl 3 rfl) ?_
          refine lv_aload_n hx hb dX8_takenForTrue_22 rfl (lv_at hl 0 rfl) ?_
          obtain ⟨x6, h6, hf⟩ := Option.bind_eq_some_iff.mp hf
          refine r_gI hx hb hts inX0 hown hK hR rfl 7 (by decide) (hts _ tw_1_61) h6 dX8_takenForTrue_23 ?_
          obtain ⟨x7, h7, hf⟩ := Option.bind_eq_some_iff.mp hf
          obtain ⟨x8, h8, hf⟩ := Option.bind_eq_some_iff.mp hf
          refine r_callV (As := [.int v3, .int x6]) (rest := []) (st1 := [.int x8]) ⟨hx, hb, hml, hown, hts⟩ (kX0_seemingOf l G ρ v0 v3 x6 _ h8) (cu_V hts tw_2_53 tw_3_7 tw_2_51 tw_2_52 tw_1_2 hdX0_seemingOf rfl rfl ⟨Nat.le_of_ble_eq_true rfl, Nat.le_of_ble_eq_true rfl⟩) hK hR rfl h7 rfl hl.1 rfl (Nat.le_of_ble_eq_true rfl) dX8_takenForTrue_26 ⟨Nat.zero_le _, Nat.zero_le _⟩ rfl ?_
          refine lv_iload_n hx hb dX8_takenForTrue_29 rfl (lv_at hl 1 rfl) ?_
          refine lv_icmp_lt (tgt := 51) hx hb dX8_takenForTrue_30 (by decide) (fun c9 => ?_) (fun c9 => ?_)
          · replace hf := (if_pos c9).symm.trans hf
            exact J51 _ ih v0 v1 v2 v3 ls hf (lv_sub hl [0, 1, 2, 3] rfl)
          · replace hf := (if_neg c9).symm.trans hf
            refine lv_aload_n hx hb dX8_takenForTrue_33 rfl (lv_at hl 0 rfl) ?_
            refine lv_iload_n hx hb dX8_takenForTrue_34 rfl (lv_at hl 3 rfl) ?_
            refine lv_aload_n hx hb dX8_takenForTrue_35 rfl (lv_at hl 0 rfl) ?_
            obtain ⟨x10, h10, hf⟩ := Option.bind_eq_some_iff.mp hf
            refine r_gI hx hb hts inX0 hown hK hR rfl 7 (by decide) (hts _ tw_1_61) h10 dX8_takenForTrue_36 ?_
            obtain ⟨x11, h11, hf⟩ := Option.bind_eq_some_iff.mp hf
            obtain ⟨x12, h12, hf⟩ := Option.bind_eq_some_iff.mp hf
            refine r_callV (As := [.int v3, .int x10]) (rest := []) (st1 := [.int x12]) ⟨hx, hb, hml, hown, hts⟩ (kX0_shineOf l G ρ v0 v3 x10 _ h12) (cu_V hts tw_2_45 tw_3_8 tw_2_43 tw_2_44 tw_1_2 hdX0_shineOf rfl rfl ⟨Nat.le_of_ble_eq_true rfl, Nat.le_of_ble_eq_true rfl⟩) hK hR rfl h11 rfl hl.1 rfl (Nat.le_of_ble_eq_true rfl) dX8_takenForTrue_39 ⟨Nat.zero_le _, Nat.zero_le _⟩ rfl ?_
            refine lv_if_ne (tgt := 51) hx hb dX8_takenForTrue_42 (by decide) (fun c13 => ?_) (fun c13 => ?_)
            · replace hf := (if_neg c13).symm.trans hf
              exact J51 _ ih v0 v1 v2 v3 ls hf (lv_sub hl [0, 1, 2, 3] rfl)
            · replace hf := (if_pos c13).symm.trans hf
              refine lv_iload_n hx hb dX8_takenForTrue_45 rfl (lv_at hl 2 rfl) ?_
              refine lv_iconst (v := 1) hx hb dX8_takenForTrue_46 (by decide) ?_
              refine lv_iload_n hx hb dX8_takenForTrue_47 rfl (lv_at hl 3 rfl) ?_
              refine lv_ishl hx hb dX8_takenForTrue_48 ?_
              refine lv_ior hx hb dX8_takenForTrue_49 ?_
              refine lv_istore_n (lv' := [(2, .int (v2 ||| ((1 : Int32) <<< (v3 &&& 31)))), (0, .ref v0), (1, .int v1), (3, .int v3)]) hx hb dX8_takenForTrue_50 rfl hl (by decide) rfl (fun ls hl => ?_)
              exact J51 _ ih v0 v1 (v2 ||| ((1 : Int32) <<< (v3 &&& 31))) v3 ls hf (lv_sub hl [1, 2, 0, 3] rfl)
  unfold fX8_takenForTrue at hf
  refine lv_iconst (v := 0) hx hb dX8_takenForTrue_0 (by decide) ?_
  refine lv_istore_n (lv' := [(2, .int 0), (0, .ref v0), (1, .int v1)]) hx hb dX8_takenForTrue_1 rfl hl (by decide) rfl (fun ls hl => ?_)
  refine lv_iconst (v := 0) hx hb dX8_takenForTrue_2 (by decide) ?_
  refine lv_istore_n (lv' := [(3, .int 0), (2, .int 0), (0, .ref v0), (1, .int v1)]) hx hb dX8_takenForTrue_3 rfl hl (by decide) rfl (fun ls hl => ?_)
  exact L4 FU v0 v1 0 0 ls hf (lv_sub hl [2, 3, 1, 0] rfl)
/-! BrickedUpAsBlind.Watch.seemingHour(LBrickedUpAsBlind$House;I)I -/
def fX8_seemingHour_42 (ρ : Rho) (k19 : Nat → Int32 → Int32 → Int32 → Option Int32) (v0 : Nat) (v1 : Int32) (v2 : Int32) (v3 : Int32) : Option Int32 :=
    k19 v0 v1 v2 (v3 + 1)
def fX8_seemingHour_19 (ρ : Rho) : Nat → Nat → Int32 → Int32 → Int32 → Option Int32
  | 0, _, _, _, _ => none
  | n + 1, v0, v1, v2, v3 =>
    if (24 : Int32) ≤ v3 then (some v2)
    else ((ckO ρ 0 v0).bind fun x2 =>
    (fX0_unstoppedSeeming ρ v0 v1 v3).bind fun x3 =>
    (ckO ρ 0 v0).bind fun x4 =>
    (fX0_unstoppedSeeming ρ v0 v1 v2).bind fun x5 =>
    if x3 ≤ x5 then (fX8_seemingHour_42 ρ (fX8_seemingHour_19 ρ n) v0 v1 v2 v3)
    else (fX8_seemingHour_42 ρ (fX8_seemingHour_19 ρ n) v0 v1 v3 v3))
def fX8_seemingHour (ρ : Rho) (v0 : Nat) (v1 : Int32) : Option Int32 :=
    (gR ρ 0 v0 0).bind fun x7 =>
    (ldI ρ x7 v1).bind fun x8 =>
    (fX1_isPainted ρ x8).bind fun x9 =>
    if x9 = 0 then (some (-4))
    else (fX8_seemingHour_19 ρ FU v0 v1 0 1)
abbrev rX8_seemingHour : Room := { frames := 3, cells := 0, slots := 0, locals := 110 }
theorem hdX8_seemingHour : hdP yX8_seemingHour 2 := by unfold hdP; decide +kernel
set_option maxHeartbeats 4000000 in
set_option maxRecDepth 100000 in
theorem kX8_seemingHour (l : Launch) (G : GD) (ρ : Rho) (v0 : Nat) (v1 : Int32) (r : Int32) (hf : fX8_seemingHour ρ v0 v1 = some r) : RM l G yX8_seemingHour (Cond.code yX8_seemingHour cX8_seemingHour 4 (some .int) :: LW) rX8_seemingHour ρ [.ref v0, .int v1] (some (.int r)) := by
  refine RM.ofI (own := RX8) (by decide) rfl (Nat.le_of_ble_eq_true rfl) ?_
  intro p e s m args below meth c H locs Q hx hb hml hown hts hK hR hret ls hl
  replace hl : lv_has ls 4 [(0, .ref v0), (1, .int v1)] := hl
  have J42 : ∀ (k19 : Nat → Int32 → Int32 → Int32 → Option Int32) (_ : ∀ (v0 : Nat) (v1 : Int32) (v2 : Int32) (v3 : Int32) (ls : Array Slot), k19 v0 v1 v2 v3 = some r → lv_has ls 4 [(0, .ref v0), (1, .int v1), (2, .int v2), (3, .int v3)] → W p l e rX8_seemingHour s m args below meth c H locs 0 0 Q (F0 m 19 ls [])), ∀ (v0 : Nat) (v1 : Int32) (v2 : Int32) (v3 : Int32) (ls : Array Slot), fX8_seemingHour_42 ρ k19 v0 v1 v2 v3 = some r → lv_has ls 4 [(0, .ref v0), (1, .int v1), (2, .int v2), (3, .int v3)] → W p l e rX8_seemingHour s m args below meth c H locs 0 0 Q (F0 m 42 ls []) := by
    intro k19 hk19 v0 v1 v2 v3 ls hf hl
    rw [fX8_seemingHour_42] at hf
    refine lv_iinc (v := (v3 + 1)) (lv' := [(3, .int (v3 + 1)), (0, .ref v0), (1, .int v1), (2, .int v2)]) hx hb dX8_seemingHour_42 hl (k := 3) rfl rfl (by decide) rfl (fun ls hl => ?_)
    refine lv_goto (tgt := 19) hx hb dX8_seemingHour_45 (by decide) ?_
    exact hk19 v0 v1 v2 (v3 + 1) ls hf (lv_sub hl [1, 2, 3, 0] rfl)
  have L19 : ∀ (n : Nat) (v0 : Nat) (v1 : Int32) (v2 : Int32) (v3 : Int32) (ls : Array Slot), fX8_seemingHour_19 ρ n v0 v1 v2 v3 = some r → lv_has ls 4 [(0, .ref v0), (1, .int v1), (2, .int v2), (3, .int v3)] → W p l e rX8_seemingHour s m args below meth c H locs 0 0 Q (F0 m 19 ls []) := by
    intro n
    induction n with
    | zero =>
      intro v0 v1 v2 v3 ls hf
      rw [fX8_seemingHour_19] at hf
      cases hf
    | succ n ih =>
      intro v0 v1 v2 v3 ls hf hl
      rw [fX8_seemingHour_19] at hf
      refine lv_iload_n hx hb dX8_seemingHour_19 rfl (lv_at hl 3 rfl) ?_
      refine lv_bipush (v := 24) hx hb dX8_seemingHour_20 (by decide) ?_
      refine lv_icmp_ge (tgt := 48) hx hb dX8_seemingHour_22 (by decide) (fun c1 => ?_) (fun c1 => ?_)
      · replace hf := (if_pos c1).symm.trans hf
        refine lv_iload_n hx hb dX8_seemingHour_48 rfl (lv_at hl 2 rfl) ?_
        exact hret _ _ _ dX8_seemingHour_49 hf
      · replace hf := (if_neg c1).symm.trans hf
        refine lv_aload_n hx hb dX8_seemingHour_25 rfl (lv_at hl 0 rfl) ?_
        refine lv_iload_n hx hb dX8_seemingHour_26 rfl (lv_at hl 1 rfl) ?_
        refine lv_iload_n hx hb dX8_seemingHour_27 rfl (lv_at hl 3 rfl) ?_
        obtain ⟨x2, h2, hf⟩ := Option.bind_eq_some_iff.mp hf
        obtain ⟨x3, h3, hf⟩ := Option.bind_eq_some_iff.mp hf
        refine r_callV (As := [.int v1, .int v3]) (rest := []) (st1 := [.int x3]) ⟨hx, hb, hml, hown, hts⟩ (kX0_unstoppedSeeming l G ρ v0 v1 v3 _ h3) (cu_V hts tw_2_57 tw_3_19 tw_2_55 tw_2_56 tw_1_2 hdX0_unstoppedSeeming rfl rfl ⟨Nat.le_of_ble_eq_true rfl, Nat.le_of_ble_eq_true rfl⟩) hK hR rfl h2 rfl hl.1 rfl (Nat.le_of_ble_eq_true rfl) dX8_seemingHour_28 ⟨Nat.zero_le _, Nat.zero_le _⟩ rfl ?_
        refine lv_aload_n hx hb dX8_seemingHour_31 rfl (lv_at hl 0 rfl) ?_
        refine lv_iload_n hx hb dX8_seemingHour_32 rfl (lv_at hl 1 rfl) ?_
        refine lv_iload_n hx hb dX8_seemingHour_33 rfl (lv_at hl 2 rfl) ?_
        obtain ⟨x4, h4, hf⟩ := Option.bind_eq_some_iff.mp hf
        obtain ⟨x5, h5, hf⟩ := Option.bind_eq_some_iff.mp hf
        refine r_callV (As := [.int v1, .int v2]) (rest := [.int x3]) (st1 := [.int x5, .int x3]) ⟨hx, hb, hml, hown, hts⟩ (kX0_unstoppedSeeming l G ρ v0 v1 v2 _ h5) (cu_V hts tw_2_57 tw_3_19 tw_2_55 tw_2_56 tw_1_2 hdX0_unstoppedSeeming rfl rfl ⟨Nat.le_of_ble_eq_true rfl, Nat.le_of_ble_eq_true rfl⟩) hK hR rfl h4 rfl hl.1 rfl (Nat.le_of_ble_eq_true rfl) dX8_seemingHour_34 ⟨Nat.zero_le _, Nat.zero_le _⟩ rfl ?_
        refine lv_icmp_le (tgt := 42) hx hb dX8_seemingHour_37 (by decide) (fun c6 => ?_) (fun c6 => ?_)
        · replace hf := (if_pos c6).symm.trans hf
          exact J42 _ ih v0 v1 v2 v3 ls hf (lv_sub hl [0, 1, 2, 3] rfl)
        · replace hf := (if_neg c6).symm.trans hf
          refine lv_iload_n hx hb dX8_seemingHour_40 rfl (lv_at hl 3 rfl) ?_
          refine lv_istore_n (lv' := [(2, .int v3), (0, .ref v0), (1, .int v1), (3, .int v3)]) hx hb dX8_seemingHour_41 rfl hl (by decide) rfl (fun ls hl => ?_)
          exact J42 _ ih v0 v1 v3 v3 ls hf (lv_sub hl [1, 2, 0, 3] rfl)
  unfold fX8_seemingHour at hf
  refine lv_aload_n hx hb dX8_seemingHour_0 rfl (lv_at hl 0 rfl) ?_
  obtain ⟨x7, h7, hf⟩ := Option.bind_eq_some_iff.mp hf
  refine r_gR hx hb hts inX0 hown hK hR rfl 0 (by decide) (hts _ tw_1_38) h7 dX8_seemingHour_1 ?_
  refine lv_iload_n hx hb dX8_seemingHour_4 rfl (lv_at hl 1 rfl) ?_
  obtain ⟨x8, h8, hf⟩ := Option.bind_eq_some_iff.mp hf
  refine r_ldI hx hb hK hR h8 dX8_seemingHour_5 ?_
  obtain ⟨x9, h9, hf⟩ := Option.bind_eq_some_iff.mp hf
  refine r_callS (As := [.int x8]) (rest := []) (st1 := [.int x9]) ⟨hx, hb, hml, hown, hts⟩ (kX1_isPainted l G ρ x8 _ h9) (cu_S hts tw_3_18 tw_3_16 tw_3_17 tw_1_7 hdX1_isPainted rfl rfl ⟨Nat.le_of_ble_eq_true rfl, Nat.le_of_ble_eq_true rfl⟩) hK hR rfl hl.1 rfl (Nat.le_of_ble_eq_true rfl) dX8_seemingHour_6 ⟨Nat.zero_le _, Nat.zero_le _⟩ rfl ?_
  refine lv_if_ne (tgt := 15) hx hb dX8_seemingHour_9 (by decide) (fun c10 => ?_) (fun c10 => ?_)
  · replace hf := (if_neg c10).symm.trans hf
    refine lv_iconst (v := 0) hx hb dX8_seemingHour_15 (by decide) ?_
    refine lv_istore_n (lv' := [(2, .int 0), (0, .ref v0), (1, .int v1)]) hx hb dX8_seemingHour_16 rfl hl (by decide) rfl (fun ls hl => ?_)
    refine lv_iconst (v := 1) hx hb dX8_seemingHour_17 (by decide) ?_
    refine lv_istore_n (lv' := [(3, .int 1), (2, .int 0), (0, .ref v0), (1, .int v1)]) hx hb dX8_seemingHour_18 rfl hl (by decide) rfl (fun ls hl => ?_)
    exact L19 FU v0 v1 0 1 ls hf (lv_sub hl [2, 3, 1, 0] rfl)
  · replace hf := (if_pos c10).symm.trans hf
    refine lv_bipush (v := (-4)) hx hb dX8_seemingHour_12 (by decide) ?_
    exact hret _ _ _ dX8_seemingHour_14 hf
/-! BrickedUpAsBlind.Watch.isPreferred(LBrickedUpAsBlind$House;III)Z -/
def fX8_isPreferred (ρ : Rho) (v0 : Nat) (v1 : Int32) (v2 : Int32) (v3 : Int32) : Option Int32 :=
    (ckO ρ 0 v0).bind fun x1 =>
    (fX0_seemingOf ρ v0 v1 v3).bind fun x2 =>
    (ckO ρ 0 v0).bind fun x3 =>
    (fX0_seemingOf ρ v0 v2 v3).bind fun x4 =>
    if x4 < x2 then (nb 1)
    else (if x2 = x4 then ((gR ρ 0 v0 1).bind fun x7 =>
    (ldI ρ x7 v1).bind fun x8 =>
    (gR ρ 0 v0 1).bind fun x9 =>
    (ldI ρ x9 v2).bind fun x10 =>
    if x8 ≤ x10 then (nb 0)
    else (nb 1))
    else (nb 0))
abbrev rX8_isPreferred : Room := { frames := 4, cells := 0, slots := 0, locals := 132 }
theorem hdX8_isPreferred : hdP yX8_isPreferred 4 := by unfold hdP; decide +kernel
set_option maxHeartbeats 4000000 in
set_option maxRecDepth 100000 in
theorem kX8_isPreferred (l : Launch) (G : GD) (ρ : Rho) (v0 : Nat) (v1 : Int32) (v2 : Int32) (v3 : Int32) (r : Int32) (hf : fX8_isPreferred ρ v0 v1 v2 v3 = some r) : RM l G yX8_isPreferred (Cond.code yX8_isPreferred cX8_isPreferred 6 (some .boolean) :: LW) rX8_isPreferred ρ [.ref v0, .int v1, .int v2, .int v3] (some (.int r)) := by
  refine RM.ofZ (own := RX8) (by decide) rfl (Nat.le_of_ble_eq_true rfl) ?_
  intro p e s m args below meth c H locs Q hx hb hml hown hts hK hR hret ls hl
  replace hl : lv_has ls 6 [(0, .ref v0), (1, .int v1), (2, .int v2), (3, .int v3)] := hl
  unfold fX8_isPreferred at hf
  refine lv_aload_n hx hb dX8_isPreferred_0 rfl (lv_at hl 0 rfl) ?_
  refine lv_iload_n hx hb dX8_isPreferred_1 rfl (lv_at hl 1 rfl) ?_
  refine lv_iload_n hx hb dX8_isPreferred_2 rfl (lv_at hl 3 rfl) ?_
  obtain ⟨x1, h1, hf⟩ := Option.bind_eq_some_iff.mp hf
  obtain ⟨x2, h2, hf⟩ := Option.bind_eq_some_iff.mp hf
  refine r_callV (As := [.int v1, .int v3]) (rest := []) (st1 := [.int x2]) ⟨hx, hb, hml, hown, hts⟩ (kX0_seemingOf l G ρ v0 v1 v3 _ h2) (cu_V hts tw_2_53 tw_3_7 tw_2_51 tw_2_52 tw_1_2 hdX0_seemingOf rfl rfl ⟨Nat.le_of_ble_eq_true rfl, Nat.le_of_ble_eq_true rfl⟩) hK hR rfl h1 rfl hl.1 rfl (Nat.le_of_ble_eq_true rfl) dX8_isPreferred_3 ⟨Nat.zero_le _, Nat.zero_le _⟩ rfl ?_
  refine lv_istore (lv' := [(4, .int x2), (0, .ref v0), (1, .int v1), (2, .int v2), (3, .int v3)]) hx hb dX8_isPreferred_6 hl (by decide) rfl (fun ls hl => ?_)
  refine lv_aload_n hx hb dX8_isPreferred_8 rfl (lv_at hl 1 rfl) ?_
  refine lv_iload_n hx hb dX8_isPreferred_9 rfl (lv_at hl 3 rfl) ?_
  refine lv_iload_n hx hb dX8_isPreferred_10 rfl (lv_at hl 4 rfl) ?_
  obtain ⟨x3, h3, hf⟩ := Option.bind_eq_some_iff.mp hf
  obtain ⟨x4, h4, hf⟩ := Option.bind_eq_some_iff.mp hf
  refine r_callV (As := [.int v2, .int v3]) (rest := []) (st1 := [.int x4]) ⟨hx, hb, hml, hown, hts⟩ (kX0_seemingOf l G ρ v0 v2 v3 _ h4) (cu_V hts tw_2_53 tw_3_7 tw_2_51 tw_2_52 tw_1_2 hdX0_seemingOf rfl rfl ⟨Nat.le_of_ble_eq_true rfl, Nat.le_of_ble_eq_true rfl⟩) hK hR rfl h3 rfl hl.1 rfl (Nat.le_of_ble_eq_true rfl) dX8_isPreferred_11 ⟨Nat.zero_le _, Nat.zero_le _⟩ rfl ?_
  refine lv_istore (lv' := [(5, .int x4), (4, .int x2), (0, .ref v0), (1, .int v1), (2, .int v2), (3, .int v3)]) hx hb dX8_isPreferred_14 hl (by decide) rfl (fun ls hl => ?_)
  refine lv_iload hx hb dX8_isPreferred_16 (lv_at hl 1 rfl) ?_
  refine lv_iload hx hb dX8_isPreferred_18 (lv_at hl 0 rfl) ?_
  refine lv_icmp_gt (tgt := 45) hx hb dX8_isPreferred_20 (by decide) (fun c5 => ?_) (fun c5 => ?_)
  · replace hf := (if_pos c5).symm.trans hf
    refine lv_iconst (v := 1) hx hb dX8_isPreferred_45 (by decide) ?_
    refine lv_goto (tgt := 50) hx hb dX8_isPreferred_46 (by decide) ?_
    exact hret _ _ _ dX8_isPreferred_50 hf
  · replace hf := (if_neg c5).symm.trans hf
    refine lv_iload hx hb dX8_isPreferred_23 (lv_at hl 1 rfl) ?_
    refine lv_iload hx hb dX8_isPreferred_25 (lv_at hl 0 rfl) ?_
    refine lv_icmp_ne (tgt := 49) hx hb dX8_isPreferred_27 (by decide) (fun c6 => ?_) (fun c6 => ?_)
    · replace hf := (if_neg c6).symm.trans hf
      refine lv_iconst (v := 0) hx hb dX8_isPreferred_49 (by decide) ?_
      exact hret _ _ _ dX8_isPreferred_50 hf
    · replace hf := (if_pos c6).symm.trans hf
      refine lv_aload_n hx hb dX8_isPreferred_30 rfl (lv_at hl 2 rfl) ?_
      obtain ⟨x7, h7, hf⟩ := Option.bind_eq_some_iff.mp hf
      refine r_gR hx hb hts inX0 hown hK hR rfl 1 (by decide) (hts _ tw_1_42) h7 dX8_isPreferred_31 ?_
      refine lv_iload_n hx hb dX8_isPreferred_34 rfl (lv_at hl 3 rfl) ?_
      obtain ⟨x8, h8, hf⟩ := Option.bind_eq_some_iff.mp hf
      refine r_ldI hx hb hK hR h8 dX8_isPreferred_35 ?_
      refine lv_aload_n hx hb dX8_isPreferred_36 rfl (lv_at hl 2 rfl) ?_
      obtain ⟨x9, h9, hf⟩ := Option.bind_eq_some_iff.mp hf
      refine r_gR hx hb hts inX0 hown hK hR rfl 1 (by decide) (hts _ tw_1_42) h9 dX8_isPreferred_37 ?_
      refine lv_iload_n hx hb dX8_isPreferred_40 rfl (lv_at hl 4 rfl) ?_
      obtain ⟨x10, h10, hf⟩ := Option.bind_eq_some_iff.mp hf
      refine r_ldI hx hb hK hR h10 dX8_isPreferred_41 ?_
      refine lv_icmp_le (tgt := 49) hx hb dX8_isPreferred_42 (by decide) (fun c11 => ?_) (fun c11 => ?_)
      · replace hf := (if_pos c11).symm.trans hf
        refine lv_iconst (v := 0) hx hb dX8_isPreferred_49 (by decide) ?_
        exact hret _ _ _ dX8_isPreferred_50 hf
      · replace hf := (if_neg c11).symm.trans hf
        refine lv_iconst (v := 1) hx hb dX8_isPreferred_45 (by decide) ?_
        refine lv_goto (tgt := 50) hx hb dX8_isPreferred_46 (by decide) ?_
        exact hret _ _ _ dX8_isPreferred_50 hf
/-! BrickedUpAsBlind.Watch.addressed(LBrickedUpAsBlind$House;I)I -/
def fX8_addressed_38 (ρ : Rho) (k5 : Nat → Int32 → Int32 → Int32 → Option Int32) (v0 : Nat) (v1 : Int32) (v2 : Int32) (v3 : Int32) : Option Int32 :=
    k5 v0 v1 v2 (v3 + 1)
def fX8_addressed_36 (ρ : Rho) (k5 : Nat → Int32 → Int32 → Int32 → Option Int32) (v0 : Nat) (v1 : Int32) (v3 : Int32) : Option Int32 :=
    fX8_addressed_38 ρ k5 v0 v1 v3 v3
def fX8_addressed_5 (ρ : Rho) : Nat → Nat → Int32 → Int32 → Int32 → Option Int32
  | 0, _, _, _, _ => none
  | n + 1, v0, v1, v2, v3 =>
    (gI ρ 0 v0 5).bind fun x1 =>
    if x1 ≤ v3 then (some v2)
    else ((ckO ρ 0 v0).bind fun x3 =>
    (fX0_seemingOf ρ v0 v3 v1).bind fun x4 =>
    if x4 ≤ 0 then (fX8_addressed_38 ρ (fX8_addressed_5 ρ n) v0 v1 v2 v3)
    else (if v2 < 0 then (fX8_addressed_36 ρ (fX8_addressed_5 ρ n) v0 v1 v3)
    else ((fX8_isPreferred ρ v0 v3 v2 v1).bind fun x7 =>
    if x7 = 0 then (fX8_addressed_38 ρ (fX8_addressed_5 ρ n) v0 v1 v2 v3)
    else (fX8_addressed_36 ρ (fX8_addressed_5 ρ n) v0 v1 v3))))
def fX8_addressed (ρ : Rho) (v0 : Nat) (v1 : Int32) : Option Int32 :=
    fX8_addressed_5 ρ FU v0 v1 (-4) 0
abbrev rX8_addressed : Room := { frames := 5, cells := 0, slots := 0, locals := 157 }
theorem hdX8_addressed : hdP yX8_addressed 2 := by unfold hdP; decide +kernel
set_option maxHeartbeats 4000000 in
set_option maxRecDepth 100000 in
theorem kX8_addressed (l : Launch) (G : GD) (ρ : Rho) (v0 : Nat) (v1 : Int32) (r : Int32) (hf : fX8_addressed ρ v0 v1 = some r) : RM l G yX8_addressed (Cond.code yX8_addressed cX8_addressed 4 (some .int) :: LW) rX8_addressed ρ [.ref v0, .int v1] (some (.int r)) := by
  refine RM.ofI (own := RX8) (by decide) rfl (Nat.le_of_ble_eq_true rfl) ?_
  intro p e s m args below meth c H locs Q hx hb hml hown hts hK hR hret ls hl
  replace hl : lv_has ls 4 [(0, .ref v0), (1, .int v1)] := hl
  have J38 : ∀ (k5 : Nat → Int32 → Int32 → Int32 → Option Int32) (_ : ∀ (v0 : Nat) (v1 : Int32) (v2 : Int32) (v3 : Int32) (ls : Array Slot), k5 v0 v1 v2 v3 = some r → lv_has ls 4 [(0, .ref v0), (1, .int v1), (2, .int v2), (3, .int v3)] → W p l e rX8_addressed s m args below meth c H locs 0 0 Q (F0 m 5 ls [])), ∀ (v0 : Nat) (v1 : Int32) (v2 : Int32) (v3 : Int32) (ls : Array Slot), fX8_addressed_38 ρ k5 v0 v1 v2 v3 = some r → lv_has ls 4 [(0, .ref v0), (1, .int v1), (2, .int v2), (3, .int v3)] → W p l e rX8_addressed s m args below meth c H locs 0 0 Q (F0 m 38 ls []) := by
    intro k5 hk5 v0 v1 v2 v3 ls hf hl
    rw [fX8_addressed_38] at hf
    refine lv_iinc (v := (v3 + 1)) (lv' := [(3, .int (v3 + 1)), (0, .ref v0), (1, .int v1), (2, .int v2)]) hx hb dX8_addressed_38 hl (k := 3) rfl rfl (by decide) rfl (fun ls hl => ?_)
    refine lv_goto (tgt := 5) hx hb dX8_addressed_41 (by decide) ?_
    exact hk5 v0 v1 v2 (v3 + 1) ls hf (lv_sub hl [1, 2, 3, 0] rfl)
  have J36 : ∀ (k5 : Nat → Int32 → Int32 → Int32 → Option Int32) (_ : ∀ (v0 : Nat) (v1 : Int32) (v2 : Int32) (v3 : Int32) (ls : Array Slot), k5 v0 v1 v2 v3 = some r → lv_has ls 4 [(0, .ref v0), (1, .int v1), (2, .int v2), (3, .int v3)] → W p l e rX8_addressed s m args below meth c H locs 0 0 Q (F0 m 5 ls [])), ∀ (v0 : Nat) (v1 : Int32) (v3 : Int32) (ls : Array Slot), fX8_addressed_36 ρ k5 v0 v1 v3 = some r → lv_has ls 4 [(0, .ref v0), (1, .int v1), (3, .int v3)] → W p l e rX8_addressed s m args below meth c H locs 0 0 Q (F0 m 36 ls []) := by
    intro k5 hk5 v0 v1 v3 ls hf hl
    rw [fX8_addressed_36] at hf
    refine lv_iload_n hx hb dX8_addressed_36 rfl (lv_at hl 2 rfl) ?_
    refine lv_istore_n (lv' := [(2, .int v3), (0, .ref v0), (1, .int v1), (3, .int v3)]) hx hb dX8_addressed_37 rfl hl (by decide) rfl (fun ls hl => ?_)
    exact J38 _ hk5 v0 v1 v3 v3 ls hf (lv_sub hl [1, 2, 0, 3] rfl)
  have L5 : ∀ (n : Nat) (v0 : Nat) (v1 : Int32) (v2 : Int32) (v3 : Int32) (ls : Array Slot), fX8_addressed_5 ρ n v0 v1 v2 v3 = some r → lv_has ls 4 [(0, .ref v0), (1, .int v1), (2, .int v2), (3, .int v3)] → W p l e rX8_addressed s m args below meth c H locs 0 0 Q (F0 m 5 ls []) := by
    intro n
    induction n with
    | zero =>
      intro v0 v1 v2 v3 ls hf
      rw [fX8_addressed_5] at hf
      cases hf
    | succ n ih =>
      intro v0 v1 v2 v3 ls hf hl
      rw [fX8_addressed_5] at hf
      refine lv_iload_n hx hb dX8_addressed_5 rfl (lv_at hl 3 rfl) ?_
      refine lv_aload_n hx hb dX8_addressed_6 rfl (lv_at hl 0 rfl) ?_
      obtain ⟨x1, h1, hf⟩ := Option.bind_eq_some_iff.mp hf
      refine r_gI hx hb hts inX0 hown hK hR rfl 5 (by decide) (hts _ tw_1_52) h1 dX8_addressed_7 ?_
      refine lv_icmp_ge (tgt := 44) hx hb dX8_addressed_10 (by decide) (fun c2 => ?_) (fun c2 => ?_)
      · replace hf := (if_pos c2).symm.trans hf
        refine lv_iload_n hx hb dX8_addressed_44 rfl (lv_at hl 2 rfl) ?_
        exact hret _ _ _ dX8_addressed_45 hf
      · replace hf := (if_neg c2).symm.trans hf
        refine lv_aload_n hx hb dX8_addressed_13 rfl (lv_at hl 0 rfl) ?_
        refine lv_iload_n hx hb dX8_addressed_14 rfl (lv_at hl 3 rfl) ?_
        refine lv_iload_n hx hb dX8_addressed_15 rfl (lv_at hl 1 rfl) ?_
        obtain ⟨x3, h3, hf⟩ := Option.bind_eq_some_iff.mp hf
        obtain ⟨x4, h4, hf⟩ := Option.bind_eq_some_iff.mp hf
        refine r_callV (As := [.int v3, .int v1]) (rest := []) (st1 := [.int x4]) ⟨hx, hb, hml, hown, hts⟩ (kX0_seemingOf l G ρ v0 v3 v1 _ h4) (cu_V hts tw_2_53 tw_3_7 tw_2_51 tw_2_52 tw_1_2 hdX0_seemingOf rfl rfl ⟨Nat.le_of_ble_eq_true rfl, Nat.le_of_ble_eq_true rfl⟩) hK hR rfl h3 rfl hl.1 rfl (Nat.le_of_ble_eq_true rfl) dX8_addressed_16 ⟨Nat.zero_le _, Nat.zero_le _⟩ rfl ?_
        refine lv_if_le (tgt := 38) hx hb dX8_addressed_19 (by decide) (fun c5 => ?_) (fun c5 => ?_)
        · replace hf := (if_pos c5).symm.trans hf
          exact J38 _ ih v0 v1 v2 v3 ls hf (lv_sub hl [0, 1, 2, 3] rfl)
        · replace hf := (if_neg c5).symm.trans hf
          refine lv_iload_n hx hb dX8_addressed_22 rfl (lv_at hl 2 rfl) ?_
          refine lv_if_lt (tgt := 36) hx hb dX8_addressed_23 (by decide) (fun c6 => ?_) (fun c6 => ?_)
          · replace hf := (if_pos c6).symm.trans hf
            exact J36 _ ih v0 v1 v3 ls hf (lv_sub hl [0, 1, 3] rfl)
          · replace hf := (if_neg c6).symm.trans hf
            refine lv_aload_n hx hb dX8_addressed_26 rfl (lv_at hl 0 rfl) ?_
            refine lv_iload_n hx hb dX8_addressed_27 rfl (lv_at hl 3 rfl) ?_
            refine lv_iload_n hx hb dX8_addressed_28 rfl (lv_at hl 2 rfl) ?_
            refine lv_iload_n hx hb dX8_addressed_29 rfl (lv_at hl 1 rfl) ?_
            obtain ⟨x7, h7, hf⟩ := Option.bind_eq_some_iff.mp hf
            refine r_callS (As := [.ref v0, .int v3, .int v2, .int v1]) (rest := []) (st1 := [.int x7]) ⟨hx, hb, hml, hown, hts⟩ (kX8_isPreferred l G ρ v0 v3 v2 v1 _ h7) (cu_S hts tw_3_51 tw_3_49 tw_3_50 tw_1_12 hdX8_isPreferred rfl rfl ⟨Nat.le_of_ble_eq_true rfl, Nat.le_of_ble_eq_true rfl⟩) hK hR rfl hl.1 rfl (Nat.le_of_ble_eq_true rfl) dX8_addressed_30 ⟨Nat.zero_le _, Nat.zero_le _⟩ rfl ?_
            refine lv_if_eq (tgt := 38) hx hb dX8_addressed_33 (by decide) (fun c8 => ?_) (fun c8 => ?_)
            · replace hf := (if_pos c8).symm.trans hf
              exact J38 _ ih v0 v1 v2 v3 ls hf (lv_sub hl [0, 1, 2, 3] rfl)
            · replace hf := (if_neg c8).symm.trans hf
              exact J36 _ ih v0 v1 v3 ls hf (lv_sub hl [0, 1, 3] rfl)
  unfold fX8_addressed at hf
  refine lv_bipush (v := (-4)) hx hb dX8_addressed_0 (by decide) ?_
  refine lv_istore_n (lv' := [(2, .int (-4)), (0, .ref v0), (1, .int v1)]) hx hb dX8_addressed_2 rfl hl (by decide) rfl (fun ls hl => ?_)
  refine lv_iconst (v := 0) hx hb dX8_addressed_3 (by decide) ?_
  refine lv_istore_n (lv' := [(3, .int 0), (2, .int (-4)), (0, .ref v0), (1, .int v1)]) hx hb dX8_addressed_4 rfl hl (by decide) rfl (fun ls hl => ?_)
  exact L5 FU v0 v1 (-4) 0 ls hf (lv_sub hl [2, 3, 1, 0] rfl)
/-! BrickedUpAsBlind.Watch.daysToAnother(LBrickedUpAsBlind$House;)I -/
def fX8_daysToAnother_49 (ρ : Rho) (k18 : Nat → Int32 → Int32 → Option Int32) (v0 : Nat) (v1 : Int32) (v2 : Int32) : Option Int32 :=
    k18 v0 v1 (v2 + 1)
def fX8_daysToAnother_18 (ρ : Rho) : Nat → Nat → Int32 → Int32 → Option Int32
  | 0, _, _, _ => none
  | n + 1, v0, v1, v2 =>
    if (24 : Int32) ≤ v2 then (some (-4))
    else ((gI ρ 0 v0 7).bind fun x2 =>
    (fX8_addressed ρ v0 ((x2 + v2) - (x2 + v2) / 24 * 24)).bind fun x3 =>
    if x3 < 0 then (fX8_daysToAnother_49 ρ (fX8_daysToAnother_18 ρ n) v0 v1 v2)
    else (if x3 = v1 then (fX8_daysToAnother_49 ρ (fX8_daysToAnother_18 ρ n) v0 v1 v2)
    else (some v2)))
def fX8_daysToAnother (ρ : Rho) (v0 : Nat) : Option Int32 :=
    (gI ρ 0 v0 7).bind fun x6 =>
    (fX8_addressed ρ v0 x6).bind fun x7 =>
    if (0 : Int32) ≤ x7 then (fX8_daysToAnother_18 ρ FU v0 x7 1)
    else (some (-4))
abbrev rX8_daysToAnother : Room := { frames := 6, cells := 0, slots := 0, locals := 180 }
theorem hdX8_daysToAnother : hdP yX8_daysToAnother 1 := by unfold hdP; decide +kernel
set_option maxHeartbeats 4000000 in
set_option maxRecDepth 100000 in
theorem kX8_daysToAnother (l : Launch) (G : GD) (ρ : Rho) (v0 : Nat) (r : Int32) (hf : fX8_daysToAnother ρ v0 = some r) : RM l G yX8_daysToAnother (Cond.code yX8_daysToAnother cX8_daysToAnother 4 (some .int) :: LW) rX8_daysToAnother ρ [.ref v0] (some (.int r)) := by
  refine RM.ofI (own := RX8) (by decide) rfl (Nat.le_of_ble_eq_true rfl) ?_
  intro p e s m args below meth c H locs Q hx hb hml hown hts hK hR hret ls hl
  replace hl : lv_has ls 4 [(0, .ref v0)] := hl
  have J49 : ∀ (k18 : Nat → Int32 → Int32 → Option Int32) (_ : ∀ (v0 : Nat) (v1 : Int32) (v2 : Int32) (ls : Array Slot), k18 v0 v1 v2 = some r → lv_has ls 4 [(0, .ref v0), (1, .int v1), (2, .int v2)] → W p l e rX8_daysToAnother s m args below meth c H locs 0 0 Q (F0 m 18 ls [])), ∀ (v0 : Nat) (v1 : Int32) (v2 : Int32) (ls : Array Slot), fX8_daysToAnother_49 ρ k18 v0 v1 v2 = some r → lv_has ls 4 [(0, .ref v0), (1, .int v1), (2, .int v2)] → W p l e rX8_daysToAnother s m args below meth c H locs 0 0 Q (F0 m 49 ls []) := by
    intro k18 hk18 v0 v1 v2 ls hf hl
    rw [fX8_daysToAnother_49] at hf
    refine lv_iinc (v := (v2 + 1)) (lv' := [(2, .int (v2 + 1)), (0, .ref v0), (1, .int v1)]) hx hb dX8_daysToAnother_49 hl (k := 2) rfl rfl (by decide) rfl (fun ls hl => ?_)
    refine lv_goto (tgt := 18) hx hb dX8_daysToAnother_52 (by decide) ?_
    exact hk18 v0 v1 (v2 + 1) ls hf (lv_sub hl [1, 2, 0] rfl)
  have L18 : ∀ (n : Nat) (v0 : Nat) (v1 : Int32) (v2 : Int32) (ls : Array Slot), fX8_daysToAnother_18 ρ n v0 v1 v2 = some r → lv_has ls 4 [(0, .ref v0), (1, .int v1), (2, .int v2)] → W p l e rX8_daysToAnother s m args below meth c H locs 0 0 Q (F0 m 18 ls []) := by
    intro n
    induction n with
    | zero =>
      intro v0 v1 v2 ls hf
      rw [fX8_daysToAnother_18] at hf
      cases hf
    | succ n ih =>
      intro v0 v1 v2 ls hf hl
      rw [fX8_daysToAnother_18] at hf
      refine lv_iload_n hx hb dX8_daysToAnother_18 rfl (lv_at hl 2 rfl) ?_
      refine lv_bipush (v := 24) hx hb dX8_daysToAnother_19 (by decide) ?_
      refine lv_icmp_ge (tgt := 55) hx hb dX8_daysToAnother_21 (by decide) (fun c1 => ?_) (fun c1 => ?_)
      · replace hf := (if_pos c1).symm.trans hf
        refine lv_bipush (v := (-4)) hx hb dX8_daysToAnother_55 (by decide) ?_
        exact hret _ _ _ dX8_daysToAnother_57 hf
      · replace hf := (if_neg c1).symm.trans hf
        refine lv_aload_n hx hb dX8_daysToAnother_24 rfl (lv_at hl 0 rfl) ?_
        refine lv_aload_n hx hb dX8_daysToAnother_25 rfl (lv_at hl 0 rfl) ?_
        obtain ⟨x2, h2, hf⟩ := Option.bind_eq_some_iff.mp hf
        refine r_gI hx hb hts inX0 hown hK hR rfl 7 (by decide) (hts _ tw_1_61) h2 dX8_daysToAnother_26 ?_
        refine lv_iload_n hx hb dX8_daysToAnother_29 rfl (lv_at hl 2 rfl) ?_
        refine lv_iadd hx hb dX8_daysToAnother_30 ?_
        refine lv_bipush (v := 24) hx hb dX8_daysToAnother_31 (by decide) ?_
        refine lv_irem hx hb dX8_daysToAnother_33 (by decide) ?_
        obtain ⟨x3, h3, hf⟩ := Option.bind_eq_some_iff.mp hf
        refine r_callS (As := [.ref v0, .int ((x2 + v2) - (x2 + v2) / 24 * 24)]) (rest := []) (st1 := [.int x3]) ⟨hx, hb, hml, hown, hts⟩ (kX8_addressed l G ρ v0 ((x2 + v2) - (x2 + v2) / 24 * 24) _ h3) (cu_S hts tw_3_48 tw_3_55 tw_3_47 tw_1_12 hdX8_addressed rfl rfl ⟨Nat.le_of_ble_eq_true rfl, Nat.le_of_ble_eq_true rfl⟩) hK hR rfl hl.1 rfl (Nat.le_of_ble_eq_true rfl) dX8_daysToAnother_34 ⟨Nat.zero_le _, Nat.zero_le _⟩ rfl ?_
        refine lv_istore_n (lv' := [(3, .int x3), (0, .ref v0), (1, .int v1), (2, .int v2)]) hx hb dX8_daysToAnother_37 rfl hl (by decide) rfl (fun ls hl => ?_)
        refine lv_iload_n hx hb dX8_daysToAnother_38 rfl (lv_at hl 0 rfl) ?_
        refine lv_if_lt (tgt := 49) hx hb dX8_daysToAnother_39 (by decide) (fun c4 => ?_) (fun c4 => ?_)
        · replace hf := (if_pos c4).symm.trans hf
          exact J49 _ ih v0 v1 v2 ls hf (lv_sub hl [1, 2, 3] rfl)
        · replace hf := (if_neg c4).symm.trans hf
          refine lv_iload_n hx hb dX8_daysToAnother_42 rfl (lv_at hl 0 rfl) ?_
          refine lv_iload_n hx hb dX8_daysToAnother_43 rfl (lv_at hl 2 rfl) ?_
          refine lv_icmp_eq (tgt := 49) hx hb dX8_daysToAnother_44 (by decide) (fun c5 => ?_) (fun c5 => ?_)
          · replace hf := (if_pos c5).symm.trans hf
            exact J49 _ ih v0 v1 v2 ls hf (lv_sub hl [1, 2, 3] rfl)
          · replace hf := (if_neg c5).symm.trans hf
            refine lv_iload_n hx hb dX8_daysToAnother_47 rfl (lv_at hl 3 rfl) ?_
            exact hret _ _ _ dX8_daysToAnother_48 hf
  unfold fX8_daysToAnother at hf
  refine lv_aload_n hx hb dX8_daysToAnother_0 rfl (lv_at hl 0 rfl) ?_
  refine lv_aload_n hx hb dX8_daysToAnother_1 rfl (lv_at hl 0 rfl) ?_
  obtain ⟨x6, h6, hf⟩ := Option.bind_eq_some_iff.mp hf
  refine r_gI hx hb hts inX0 hown hK hR rfl 7 (by decide) (hts _ tw_1_61) h6 dX8_daysToAnother_2 ?_
  obtain ⟨x7, h7, hf⟩ := Option.bind_eq_some_iff.mp hf
  refine r_callS (As := [.ref v0, .int x6]) (rest := []) (st1 := [.int x7]) ⟨hx, hb, hml, hown, hts⟩ (kX8_addressed l G ρ v0 x6 _ h7) (cu_S hts tw_3_48 tw_3_55 tw_3_47 tw_1_12 hdX8_addressed rfl rfl ⟨Nat.le_of_ble_eq_true rfl, Nat.le_of_ble_eq_true rfl⟩) hK hR rfl hl.1 rfl (Nat.le_of_ble_eq_true rfl) dX8_daysToAnother_5 ⟨Nat.zero_le _, Nat.zero_le _⟩ rfl ?_
  refine lv_istore_n (lv' := [(1, .int x7), (0, .ref v0)]) hx hb dX8_daysToAnother_8 rfl hl (by decide) rfl (fun ls hl => ?_)
  refine lv_iload_n hx hb dX8_daysToAnother_9 rfl (lv_at hl 0 rfl) ?_
  refine lv_if_ge (tgt := 16) hx hb dX8_daysToAnother_10 (by decide) (fun c8 => ?_) (fun c8 => ?_)
  · replace hf := (if_pos c8).symm.trans hf
    refine lv_iconst (v := 1) hx hb dX8_daysToAnother_16 (by decide) ?_
    refine lv_istore_n (lv' := [(2, .int 1), (1, .int x7), (0, .ref v0)]) hx hb dX8_daysToAnother_17 rfl hl (by decide) rfl (fun ls hl => ?_)
    exact L18 FU v0 x7 1 ls hf (lv_sub hl [2, 1, 0] rfl)
  · replace hf := (if_neg c8).symm.trans hf
    refine lv_bipush (v := (-4)) hx hb dX8_daysToAnother_13 (by decide) ?_
    exact hret _ _ _ dX8_daysToAnother_15 hf
/-! BrickedUpAsBlind.Watch.areTwins(LBrickedUpAsBlind$House;II)Z -/
def fX8_areTwins_2 (ρ : Rho) : Nat → Nat → Int32 → Int32 → Int32 → Option Int32
  | 0, _, _, _, _ => none
  | n + 1, v0, v1, v2, v3 =>
    if (24 : Int32) ≤ v3 then (nb 1)
    else ((ckO ρ 0 v0).bind fun x2 =>
    (fX0_shineOf ρ v0 v1 v3).bind fun x3 =>
    (ckO ρ 0 v0).bind fun x4 =>
    (fX0_shineOf ρ v0 v2 v3).bind fun x5 =>
    if x3 = x5 then ((ckO ρ 0 v0).bind fun x7 =>
    (fX0_isMoving ρ v0 v1 v3).bind fun x8 =>
    (ckO ρ 0 v0).bind fun x9 =>
    (fX0_isMoving ρ v0 v2 v3).bind fun x10 =>
    if x8 = x10 then (fX8_areTwins_2 ρ n v0 v1 v2 (v3 + 1))
    else (nb 0))
    else (nb 0))
def fX8_areTwins (ρ : Rho) (v0 : Nat) (v1 : Int32) (v2 : Int32) : Option Int32 :=
    fX8_areTwins_2 ρ FU v0 v1 v2 0
abbrev rX8_areTwins : Room := { frames := 2, cells := 0, slots := 0, locals := 45 }
theorem hdX8_areTwins : hdP yX8_areTwins 3 := by unfold hdP; decide +kernel
set_option maxHeartbeats 4000000 in
set_option maxRecDepth 100000 in
theorem kX8_areTwins (l : Launch) (G : GD) (ρ : Rho) (v0 : Nat) (v1 : Int32) (v2 : Int32) (r : Int32) (hf : fX8_areTwins ρ v0 v1 v2 = some r) : RM l G yX8_areTwins (Cond.code yX8_areTwins cX8_areTwins 4 (some .boolean) :: LW) rX8_areTwins ρ [.ref v0, .int v1, .int v2] (some (.int r)) := by
  refine RM.ofZ (own := RX8) (by decide) rfl (Nat.le_of_ble_eq_true rfl) ?_
  intro p e s m args below meth c H locs Q hx hb hml hown hts hK hR hret ls hl
  replace hl : lv_has ls 4 [(0, .ref v0), (1, .int v1), (2, .int v2)] := hl
  have L2 : ∀ (n : Nat) (v0 : Nat) (v1 : Int32) (v2 : Int32) (v3 : Int32) (ls : Array Slot), fX8_areTwins_2 ρ n v0 v1 v2 v3 = some r → lv_has ls 4 [(0, .ref v0), (1, .int v1), (2, .int v2), (3, .int v3)] → W p l e rX8_areTwins s m args below meth c H locs 0 0 Q (F0 m 2 ls []) := by
    intro n
    induction n with
    | zero =>
      intro v0 v1 v2 v3 ls hf
      rw [fX8_areTwins_2] at hf
      cases hf
    | succ n ih =>
      intro v0 v1 v2 v3 ls hf hl
      rw [fX8_areTwins_2] at hf
      refine lv_iload_n hx hb dX8_areTwins_2 rfl (lv_at hl 3 rfl) ?_
      refine lv_bipush (v := 24) hx hb dX8_areTwins_3 (by decide) ?_
      refine lv_icmp_ge (tgt := 46) hx hb dX8_areTwins_5 (by decide) (fun c1 => ?_) (fun c1 => ?_)
      · replace hf := (if_pos c1).symm.trans hf
        refine lv_iconst (v := 1) hx hb dX8_areTwins_46 (by decide) ?_
        exact hret _ _ _ dX8_areTwins_47 hf
      · replace hf := (if_neg c1).symm.trans hf
        refine lv_aload_n hx hb dX8_areTwins_8 rfl (lv_at hl 0 rfl) ?_
        refine lv_iload_n hx hb dX8_areTwins_9 rfl (lv_at hl 1 rfl) ?_
        refine lv_iload_n hx hb dX8_areTwins_10 rfl (lv_at hl 3 rfl) ?_
        obtain ⟨x2, h2, hf⟩ := Option.bind_eq_some_iff.mp hf
        obtain ⟨x3, h3, hf⟩ := Option.bind_eq_some_iff.mp hf
        refine r_callV (As := [.int v1, .int v3]) (rest := []) (st1 := [.int x3]) ⟨hx, hb, hml, hown, hts⟩ (kX0_shineOf l G ρ v0 v1 v3 _ h3) (cu_V hts tw_2_45 tw_3_8 tw_2_43 tw_2_44 tw_1_2 hdX0_shineOf rfl rfl ⟨Nat.le_of_ble_eq_true rfl, Nat.le_of_ble_eq_true rfl⟩) hK hR rfl h2 rfl hl.1 rfl (Nat.le_of_ble_eq_true rfl) dX8_areTwins_11 ⟨Nat.zero_le _, Nat.zero_le _⟩ rfl ?_
        refine lv_aload_n hx hb dX8_areTwins_14 rfl (lv_at hl 0 rfl) ?_
        refine lv_iload_n hx hb dX8_areTwins_15 rfl (lv_at hl 2 rfl) ?_
        refine lv_iload_n hx hb dX8_areTwins_16 rfl (lv_at hl 3 rfl) ?_
        obtain ⟨x4, h4, hf⟩ := Option.bind_eq_some_iff.mp hf
        obtain ⟨x5, h5, hf⟩ := Option.bind_eq_some_iff.mp hf
        refine r_callV (As := [.int v2, .int v3]) (rest := [.int x3]) (st1 := [.int x5, .int x3]) ⟨hx, hb, hml, hown, hts⟩ (kX0_shineOf l G ρ v0 v2 v3 _ h5) (cu_V hts tw_2_45 tw_3_8 tw_2_43 tw_2_44 tw_1_2 hdX0_shineOf rfl rfl ⟨Nat.le_of_ble_eq_true rfl, Nat.le_of_ble_eq_true rfl⟩) hK hR rfl h4 rfl hl.1 rfl (Nat.le_of_ble_eq_true rfl) dX8_areTwins_17 ⟨Nat.zero_le _, Nat.zero_le _⟩ rfl ?_
        refine lv_icmp_ne (tgt := 38) hx hb dX8_areTwins_20 (by decide) (fun c6 => ?_) (fun c6 => ?_)
        · replace hf := (if_neg c6).symm.trans hf
          refine lv_iconst (v := 0) hx hb dX8_areTwins_38 (by decide) ?_
          exact hret _ _ _ dX8_areTwins_39 hf
        · replace hf := (if_pos c6).symm.trans hf
          refine lv_aload_n hx hb dX8_areTwins_23 rfl (lv_at hl 0 rfl) ?_
          refine lv_iload_n hx hb dX8_areTwins_24 rfl (lv_at hl 1 rfl) ?_
          refine lv_iload_n hx hb dX8_areTwins_25 rfl (lv_at hl 3 rfl) ?_
          obtain ⟨x7, h7, hf⟩ := Option.bind_eq_some_iff.mp hf
          obtain ⟨x8, h8, hf⟩ := Option.bind_eq_some_iff.mp hf
          refine r_callV (As := [.int v1, .int v3]) (rest := []) (st1 := [.int x8]) ⟨hx, hb, hml, hown, hts⟩ (kX0_isMoving l G ρ v0 v1 v3 _ h8) (cu_V hts tw_2_12 tw_2_220 tw_2_10 tw_2_11 tw_1_2 hdX0_isMoving rfl rfl ⟨Nat.le_of_ble_eq_true rfl, Nat.le_of_ble_eq_true rfl⟩) hK hR rfl h7 rfl hl.1 rfl (Nat.le_of_ble_eq_true rfl) dX8_areTwins_26 ⟨Nat.zero_le _, Nat.zero_le _⟩ rfl ?_
          refine lv_aload_n hx hb dX8_areTwins_29 rfl (lv_at hl 0 rfl) ?_
          refine lv_iload_n hx hb dX8_areTwins_30 rfl (lv_at hl 2 rfl) ?_
          refine lv_iload_n hx hb dX8_areTwins_31 rfl (lv_at hl 3 rfl) ?_
          obtain ⟨x9, h9, hf⟩ := Option.bind_eq_some_iff.mp hf
          obtain ⟨x10, h10, hf⟩ := Option.bind_eq_some_iff.mp hf
          refine r_callV (As := [.int v2, .int v3]) (rest := [.int x8]) (st1 := [.int x10, .int x8]) ⟨hx, hb, hml, hown, hts⟩ (kX0_isMoving l G ρ v0 v2 v3 _ h10) (cu_V hts tw_2_12 tw_2_220 tw_2_10 tw_2_11 tw_1_2 hdX0_isMoving rfl rfl ⟨Nat.le_of_ble_eq_true rfl, Nat.le_of_ble_eq_true rfl⟩) hK hR rfl h9 rfl hl.1 rfl (Nat.le_of_ble_eq_true rfl) dX8_areTwins_32 ⟨Nat.zero_le _, Nat.zero_le _⟩ rfl ?_
          refine lv_icmp_eq (tgt := 40) hx hb dX8_areTwins_35 (by decide) (fun c11 => ?_) (fun c11 => ?_)
          · replace hf := (if_pos c11).symm.trans hf
            refine lv_iinc (v := (v3 + 1)) (lv' := [(3, .int (v3 + 1)), (0, .ref v0), (1, .int v1), (2, .int v2)]) hx hb dX8_areTwins_40 hl (k := 3) rfl rfl (by decide) rfl (fun ls hl => ?_)
            refine lv_goto (tgt := 2) hx hb dX8_areTwins_43 (by decide) ?_
            exact ih v0 v1 v2 (v3 + 1) ls hf (lv_sub hl [1, 2, 3, 0] rfl)
          · replace hf := (if_neg c11).symm.trans hf
            refine lv_iconst (v := 0) hx hb dX8_areTwins_38 (by decide) ?_
            exact hret _ _ _ dX8_areTwins_39 hf
  unfold fX8_areTwins at hf
  refine lv_iconst (v := 0) hx hb dX8_areTwins_0 (by decide) ?_
  refine lv_istore_n (lv' := [(3, .int 0), (0, .ref v0), (1, .int v1), (2, .int v2)]) hx hb dX8_areTwins_1 rfl hl (by decide) rfl (fun ls hl => ?_)
  exact L2 FU v0 v1 v2 0 ls hf (lv_sub hl [1, 2, 3, 0] rfl)
/-! BrickedUpAsBlind.Watch.twinPairs(LBrickedUpAsBlind$House;)I -/
def fX8_twinPairs_36 (ρ : Rho) (k4 : Nat → Int32 → Int32 → Option Int32) (k16 : Nat → Int32 → Int32 → Int32 → Option Int32) (v0 : Nat) (v1 : Int32) (v2 : Int32) (v3 : Int32) : Option Int32 :=
    k16 v0 v1 v2 (v3 + 1)
def fX8_twinPairs_16 (ρ : Rho) (k4 : Nat → Int32 → Int32 → Option Int32) : Nat → Nat → Int32 → Int32 → Int32 → Option Int32
  | 0, _, _, _, _ => none
  | n + 1, v0, v1, v2, v3 =>
    (gI ρ 0 v0 5).bind fun x1 =>
    if x1 ≤ v3 then (k4 v0 v1 (v2 + 1))
    else ((fX8_areTwins ρ v0 v2 v3).bind fun x3 =>
    if x3 = 0 then (fX8_twinPairs_36 ρ k4 (fX8_twinPairs_16 ρ k4 n) v0 v1 v2 v3)
    else (fX8_twinPairs_36 ρ k4 (fX8_twinPairs_16 ρ k4 n) v0 (v1 + 1) v2 v3))
def fX8_twinPairs_4 (ρ : Rho) : Nat → Nat → Int32 → Int32 → Option Int32
  | 0, _, _, _ => none
  | n + 1, v0, v1, v2 =>
    (gI ρ 0 v0 5).bind fun x5 =>
    if x5 ≤ v2 then (some v1)
    else (fX8_twinPairs_16 ρ (fX8_twinPairs_4 ρ n) FU v0 v1 v2 (v2 + 1))
def fX8_twinPairs (ρ : Rho) (v0 : Nat) : Option Int32 :=
    fX8_twinPairs_4 ρ FU v0 0 0
abbrev rX8_twinPairs : Room := { frames := 3, cells := 0, slots := 0, locals := 68 }
theorem hdX8_twinPairs : hdP yX8_twinPairs 1 := by unfold hdP; decide +kernel
set_option maxHeartbeats 4000000 in
set_option maxRecDepth 100000 in
theorem kX8_twinPairs (l : Launch) (G : GD) (ρ : Rho) (v0 : Nat) (r : Int32) (hf : fX8_twinPairs ρ v0 = some r) : RM l G yX8_twinPairs (Cond.code yX8_twinPairs cX8_twinPairs 4 (some .int) :: LW) rX8_twinPairs ρ [.ref v0] (some (.int r)) := by
  refine RM.ofI (own := RX8) (by decide) rfl (Nat.le_of_ble_eq_true rfl) ?_
  intro p e s m args below meth c H locs Q hx hb hml hown hts hK hR hret ls hl
  replace hl : lv_has ls 4 [(0, .ref v0)] := hl
  have J36 : ∀ (k4 : Nat → Int32 → Int32 → Option Int32) (_ : ∀ (v0 : Nat) (v1 : Int32) (v2 : Int32) (ls : Array Slot), k4 v0 v1 v2 = some r → lv_has ls 4 [(0, .ref v0), (1, .int v1), (2, .int v2)] → W p l e rX8_twinPairs s m args below meth c H locs 0 0 Q (F0 m 4 ls [])), ∀ (k16 : Nat → Int32 → Int32 → Int32 → Option Int32) (_ : ∀ (v0 : Nat) (v1 : Int32) (v2 : Int32) (v3 : Int32) (ls : Array Slot), k16 v0 v1 v2 v3 = some r → lv_has ls 4 [(0, .ref v0), (1, .int v1), (2, .int v2), (3, .int v3)] → W p l e rX8_twinPairs s m args below meth c H locs 0 0 Q (F0 m 16 ls [])), ∀ (v0 : Nat) (v1 : Int32) (v2 : Int32) (v3 : Int32) (ls : Array Slot), fX8_twinPairs_36 ρ k4 k16 v0 v1 v2 v3 = some r → lv_has ls 4 [(0, .ref v0), (1, .int v1), (2, .int v2), (3, .int v3)] → W p l e rX8_twinPairs s m args below meth c H locs 0 0 Q (F0 m 36 ls []) := by
    intro k4 hk4 k16 hk16 v0 v1 v2 v3 ls hf hl
    rw [fX8_twinPairs_36] at hf
    refine lv_iinc (v := (v3 + 1)) (lv' := [(3, .int (v3 + 1)), (0, .ref v0), (1, .int v1), (2, .int v2)]) hx hb dX8_twinPairs_36 hl (k := 3) rfl rfl (by decide) rfl (fun ls hl => ?_)
    refine lv_goto (tgt := 16) hx hb dX8_twinPairs_39 (by decide) ?_
    exact hk16 v0 v1 v2 (v3 + 1) ls hf (lv_sub hl [1, 2, 3, 0] rfl)
  have L16 : ∀ (k4 : Nat → Int32 → Int32 → Option Int32) (_ : ∀ (v0 : Nat) (v1 : Int32) (v2 : Int32) (ls : Array Slot), k4 v0 v1 v2 = some r → lv_has ls 4 [(0, .ref v0), (1, .int v1), (2, .int v2)] → W p l e rX8_twinPairs s m args below meth c H locs 0 0 Q (F0 m 4 ls [])), ∀ (n : Nat) (v0 : Nat) (v1 : Int32) (v2 : Int32) (v3 : Int32) (ls : Array Slot), fX8_twinPairs_16 ρ k4 n v0 v1 v2 v3 = some r → lv_has ls 4 [(0, .ref v0), (1, .int v1), (2, .int v2), (3, .int v3)] → W p l e rX8_twinPairs s m args below meth c H locs 0 0 Q (F0 m 16 ls []) := by
    intro k4 hk4 n
    induction n with
    | zero =>
      intro v0 v1 v2 v3 ls hf
      rw [fX8_twinPairs_16] at hf
      cases hf
    | succ n ih =>
      intro v0 v1 v2 v3 ls hf hl
      rw [fX8_twinPairs_16] at hf
      refine lv_iload_n hx hb dX8_twinPairs_16 rfl (lv_at hl 3 rfl) ?_
      refine lv_aload_n hx hb dX8_twinPairs_17 rfl (lv_at hl 0 rfl) ?_
      obtain ⟨x1, h1, hf⟩ := Option.bind_eq_some_iff.mp hf
      refine r_gI hx hb hts inX0 hown hK hR rfl 5 (by decide) (hts _ tw_1_52) h1 dX8_twinPairs_18 ?_
      refine lv_icmp_ge (tgt := 42) hx hb dX8_twinPairs_21 (by decide) (fun c2 => ?_) (fun c2 => ?_)
      · replace hf := (if_pos c2).symm.trans hf
        refine lv_iinc (v := (v2 + 1)) (lv' := [(2, .int (v2 + 1)), (0, .ref v0), (1, .int v1), (3, .int v3)]) hx hb dX8_twinPairs_42 hl (k := 2) rfl rfl (by decide) rfl (fun ls hl => ?_)
        refine lv_goto (tgt := 4) hx hb dX8_twinPairs_45 (by decide) ?_
        exact hk4 v0 v1 (v2 + 1) ls hf (lv_sub hl [1, 2, 0] rfl)
      · replace hf := (if_neg c2).symm.trans hf
        refine lv_aload_n hx hb dX8_twinPairs_24 rfl (lv_at hl 0 rfl) ?_
        refine lv_iload_n hx hb dX8_twinPairs_25 rfl (lv_at hl 2 rfl) ?_
        refine lv_iload_n hx hb dX8_twinPairs_26 rfl (lv_at hl 3 rfl) ?_
        obtain ⟨x3, h3, hf⟩ := Option.bind_eq_some_iff.mp hf
        refine r_callS (As := [.ref v0, .int v2, .int v3]) (rest := []) (st1 := [.int x3]) ⟨hx, hb, hml, hown, hts⟩ (kX8_areTwins l G ρ v0 v2 v3 _ h3) (cu_S hts tw_3_65 tw_3_63 tw_3_64 tw_1_12 hdX8_areTwins rfl rfl ⟨Nat.le_of_ble_eq_true rfl, Nat.le_of_ble_eq_true rfl⟩) hK hR rfl hl.1 rfl (Nat.le_of_ble_eq_true rfl) dX8_twinPairs_27 ⟨Nat.zero_le _, Nat.zero_le _⟩ rfl ?_
        refine lv_if_eq (tgt := 36) hx hb dX8_twinPairs_30 (by decide) (fun c4 => ?_) (fun c4 => ?_)
        · replace hf := (if_pos c4).symm.trans hf
          exact J36 _ hk4 _ ih v0 v1 v2 v3 ls hf (lv_sub hl [0, 1, 2, 3] rfl)
        · replace hf := (if_neg c4).symm.trans hf
          refine lv_iinc (v := (v1 + 1)) (lv' := [(1, .int (v1 + 1)), (0, .ref v0), (2, .int v2), (3, .int v3)]) hx hb dX8_twinPairs_33 hl (k := 1) rfl rfl (by decide) rfl (fun ls hl => ?_)
          exact J36 _ hk4 _ ih v0 (v1 + 1) v2 v3 ls hf (lv_sub hl [1, 0, 2, 3] rfl)
  have L4 : ∀ (n : Nat) (v0 : Nat) (v1 : Int32) (v2 : Int32) (ls : Array Slot), fX8_twinPairs_4 ρ n v0 v1 v2 = some r → lv_has ls 4 [(0, .ref v0), (1, .int v1), (2, .int v2)] → W p l e rX8_twinPairs s m args below meth c H locs 0 0 Q (F0 m 4 ls []) := by
    intro n
    induction n with
    | zero =>
      intro v0 v1 v2 ls hf
      rw [fX8_twinPairs_4] at hf
      cases hf
    | succ n ih =>
      intro v0 v1 v2 ls hf hl
      rw [fX8_twinPairs_4] at hf
      refine lv_iload_n hx hb dX8_twinPairs_4 rfl (lv_at hl 2 rfl) ?_
      refine lv_aload_n hx hb dX8_twinPairs_5 rfl (lv_at hl 0 rfl) ?_
      obtain ⟨x5, h5, hf⟩ := Option.bind_eq_some_iff.mp hf
      refine r_gI hx hb hts inX0 hown hK hR rfl 5 (by decide) (hts _ tw_1_52) h5 dX8_twinPairs_6 ?_
      refine lv_icmp_ge (tgt := 48) hx hb dX8_twinPairs_9 (by decide) (fun c6 => ?_) (fun c6 => ?_)
      · replace hf := (if_pos c6).symm.trans hf
        refine lv_iload_n hx hb dX8_twinPairs_48 rfl (lv_at hl 1 rfl) ?_
        exact hret _ _ _ dX8_twinPairs_49 hf
      · replace hf := (if_neg c6).symm.trans hf
        refine lv_iload_n hx hb dX8_twinPairs_12 rfl (lv_at hl 2 rfl) ?_
        refine lv_iconst (v := 1) hx hb dX8_twinPairs_13 (by decide) ?_
        refine lv_iadd hx hb dX8_twinPairs_14 ?_
        refine lv_istore_n (lv' := [(3, .int (v2 + 1)), (0, .ref v0), (1, .int v1), (2, .int v2)]) hx hb dX8_twinPairs_15 rfl hl (by decide) rfl (fun ls hl => ?_)
        exact L16 _ ih FU v0 v1 v2 (v2 + 1) ls hf (lv_sub hl [1, 2, 3, 0] rfl)
  unfold fX8_twinPairs at hf
  refine lv_iconst (v := 0) hx hb dX8_twinPairs_0 (by decide) ?_
  refine lv_istore_n (lv' := [(1, .int 0), (0, .ref v0)]) hx hb dX8_twinPairs_1 rfl hl (by decide) rfl (fun ls hl => ?_)
  refine lv_iconst (v := 0) hx hb dX8_twinPairs_2 (by decide) ?_
  refine lv_istore_n (lv' := [(2, .int 0), (1, .int 0), (0, .ref v0)]) hx hb dX8_twinPairs_3 rfl hl (by decide) rfl (fun ls hl => ?_)
  exact L4 FU v0 0 0 ls hf (lv_sub hl [2, 1, 0] rfl)
/-! BrickedUpAsBlind.Watch.firstTwins(LBrickedUpAsBlind$House;)I -/
def fX8_firstTwins_14 (ρ : Rho) (k2 : Nat → Int32 → Option Int32) : Nat → Nat → Int32 → Int32 → Option Int32
  | 0, _, _, _ => none
  | n + 1, v0, v1, v2 =>
    (gI ρ 0 v0 5).bind fun x1 =>
    if x1 ≤ v2 then (k2 v0 (v1 + 1))
    else ((fX8_areTwins ρ v0 v1 v2).bind fun x3 =>
    if x3 = 0 then (fX8_firstTwins_14 ρ k2 n v0 v1 (v2 + 1))
    else (some (((10 : Int32) * v1) + v2)))
def fX8_firstTwins_2 (ρ : Rho) : Nat → Nat → Int32 → Option Int32
  | 0, _, _ => none
  | n + 1, v0, v1 =>
    (gI ρ 0 v0 5).bind fun x5 =>
    if x5 ≤ v1 then (some (-4))
    else (fX8_firstTwins_14 ρ (fX8_firstTwins_2 ρ n) FU v0 v1 (v1 + 1))
def fX8_firstTwins (ρ : Rho) (v0 : Nat) : Option Int32 :=
    fX8_firstTwins_2 ρ FU v0 0
abbrev rX8_firstTwins : Room := { frames := 3, cells := 0, slots := 0, locals := 68 }
theorem hdX8_firstTwins : hdP yX8_firstTwins 1 := by unfold hdP; decide +kernel
set_option maxHeartbeats 4000000 in
set_option maxRecDepth 100000 in
theorem kX8_firstTwins (l : Launch) (G : GD) (ρ : Rho) (v0 : Nat) (r : Int32) (hf : fX8_firstTwins ρ v0 = some r) : RM l G yX8_firstTwins (Cond.code yX8_firstTwins cX8_firstTwins 3 (some .int) :: LW) rX8_firstTwins ρ [.ref v0] (some (.int r)) := by
  refine RM.ofI (own := RX8) (by decide) rfl (Nat.le_of_ble_eq_true rfl) ?_
  intro p e s m args below meth c H locs Q hx hb hml hown hts hK hR hret ls hl
  replace hl : lv_has ls 3 [(0, .ref v0)] := hl
  have L14 : ∀ (k2 : Nat → Int32 → Option Int32) (_ : ∀ (v0 : Nat) (v1 : Int32) (ls : Array Slot), k2 v0 v1 = some r → lv_has ls 3 [(0, .ref v0), (1, .int v1)] → W p l e rX8_firstTwins s m args below meth c H locs 0 0 Q (F0 m 2 ls [])), ∀ (n : Nat) (v0 : Nat) (v1 : Int32) (v2 : Int32) (ls : Array Slot), fX8_firstTwins_14 ρ k2 n v0 v1 v2 = some r → lv_has ls 3 [(0, .ref v0), (1, .int v1), (2, .int v2)] → W p l e rX8_firstTwins s m args below meth c H locs 0 0 Q (F0 m 14 ls []) := by
    intro k2 hk2 n
    induction n with
    | zero =>
      intro v0 v1 v2 ls hf
      rw [fX8_firstTwins_14] at hf
      cases hf
    | succ n ih =>
      intro v0 v1 v2 ls hf hl
      rw [fX8_firstTwins_14] at hf
      refine lv_iload_n hx hb dX8_firstTwins_14 rfl (lv_at hl 2 rfl) ?_
      refine lv_aload_n hx hb dX8_firstTwins_15 rfl (lv_at hl 0 rfl) ?_
      obtain ⟨x1, h1, hf⟩ := Option.bind_eq_some_iff.mp hf
      refine r_gI hx hb hts inX0 hown hK hR rfl 5 (by decide) (hts _ tw_1_52) h1 dX8_firstTwins_16 ?_
      refine lv_icmp_ge (tgt := 44) hx hb dX8_firstTwins_19 (by decide) (fun c2 => ?_) (fun c2 => ?_)
      · replace hf := (if_pos c2).symm.trans hf
        refine lv_iinc (v := (v1 + 1)) (lv' := [(1, .int (v1 + 1)), (0, .ref v0), (2, .int v2)]) hx hb dX8_firstTwins_44 hl (k := 1) rfl rfl (by decide) rfl (fun ls hl => ?_)
        refine lv_goto (tgt := 2) hx hb dX8_firstTwins_47 (by decide) ?_
        exact hk2 v0 (v1 + 1) ls hf (lv_sub hl [1, 0] rfl)
      · replace hf := (if_neg c2).symm.trans hf
        refine lv_aload_n hx hb dX8_firstTwins_22 rfl (lv_at hl 0 rfl) ?_
        refine lv_iload_n hx hb dX8_firstTwins_23 rfl (lv_at hl 1 rfl) ?_
        refine lv_iload_n hx hb dX8_firstTwins_24 rfl (lv_at hl 2 rfl) ?_
        obtain ⟨x3, h3, hf⟩ := Option.bind_eq_some_iff.mp hf
        refine r_callS (As := [.ref v0, .int v1, .int v2]) (rest := []) (st1 := [.int x3]) ⟨hx, hb, hml, hown, hts⟩ (kX8_areTwins l G ρ v0 v1 v2 _ h3) (cu_S hts tw_3_65 tw_3_63 tw_3_64 tw_1_12 hdX8_areTwins rfl rfl ⟨Nat.le_of_ble_eq_true rfl, Nat.le_of_ble_eq_true rfl⟩) hK hR rfl hl.1 rfl (Nat.le_of_ble_eq_true rfl) dX8_firstTwins_25 ⟨Nat.zero_le _, Nat.zero_le _⟩ rfl ?_
        refine lv_if_eq (tgt := 38) hx hb dX8_firstTwins_28 (by decide) (fun c4 => ?_) (fun c4 => ?_)
        · replace hf := (if_pos c4).symm.trans hf
          refine lv_iinc (v := (v2 + 1)) (lv' := [(2, .int (v2 + 1)), (0, .ref v0), (1, .int v1)]) hx hb dX8_firstTwins_38 hl (k := 2) rfl rfl (by decide) rfl (fun ls hl => ?_)
          refine lv_goto (tgt := 14) hx hb dX8_firstTwins_41 (by decide) ?_
          exact ih v0 v1 (v2 + 1) ls hf (lv_sub hl [1, 2, 0] rfl)
        · replace hf := (if_neg c4).symm.trans hf
          refine lv_bipush (v := 10) hx hb dX8_firstTwins_31 (by decide) ?_
          refine lv_iload_n hx hb dX8_firstTwins_33 rfl (lv_at hl 1 rfl) ?_
          refine lv_imul hx hb dX8_firstTwins_34 ?_
          refine lv_iload_n hx hb dX8_firstTwins_35 rfl (lv_at hl 2 rfl) ?_
          refine lv_iadd hx hb dX8_firstTwins_36 ?_
          exact hret _ _ _ dX8_firstTwins_37 hf
  have L2 : ∀ (n : Nat) (v0 : Nat) (v1 : Int32) (ls : Array Slot), fX8_firstTwins_2 ρ n v0 v1 = some r → lv_has ls 3 [(0, .ref v0), (1, .int v1)] → W p l e rX8_firstTwins s m args below meth c H locs 0 0 Q (F0 m 2 ls []) := by
    intro n
    induction n with
    | zero =>
      intro v0 v1 ls hf
      rw [fX8_firstTwins_2] at hf
      cases hf
    | succ n ih =>
      intro v0 v1 ls hf hl
      rw [fX8_firstTwins_2] at hf
      refine lv_iload_n hx hb dX8_firstTwins_2 rfl (lv_at hl 1 rfl) ?_
      refine lv_aload_n hx hb dX8_firstTwins_3 rfl (lv_at hl 0 rfl) ?_
      obtain ⟨x5, h5, hf⟩ := Option.bind_eq_some_iff.mp hf
      refine r_gI hx hb hts inX0 hown hK hR rfl 5 (by decide) (hts _ tw_1_52) h5 dX8_firstTwins_4 ?_
      refine lv_icmp_ge (tgt := 50) hx hb dX8_firstTwins_7 (by decide) (fun c6 => ?_) (fun c6 => ?_)
      · replace hf := (if_pos c6).symm.trans hf
        refine lv_bipush (v := (-4)) hx hb dX8_firstTwins_50 (by decide) ?_
        exact hret _ _ _ dX8_firstTwins_52 hf
      · replace hf := (if_neg c6).symm.trans hf
        refine lv_iload_n hx hb dX8_firstTwins_10 rfl (lv_at hl 1 rfl) ?_
        refine lv_iconst (v := 1) hx hb dX8_firstTwins_11 (by decide) ?_
        refine lv_iadd hx hb dX8_firstTwins_12 ?_
        refine lv_istore_n (lv' := [(2, .int (v1 + 1)), (0, .ref v0), (1, .int v1)]) hx hb dX8_firstTwins_13 rfl hl (by decide) rfl (fun ls hl => ?_)
        exact L14 _ ih FU v0 v1 (v1 + 1) ls hf (lv_sub hl [1, 2, 0] rfl)
  unfold fX8_firstTwins at hf
  refine lv_iconst (v := 0) hx hb dX8_firstTwins_0 (by decide) ?_
  refine lv_istore_n (lv' := [(1, .int 0), (0, .ref v0)]) hx hb dX8_firstTwins_1 rfl hl (by decide) rfl (fun ls hl => ?_)
  exact L2 FU v0 0 ls hf (lv_sub hl [1, 0] rfl)
/-! BrickedUpAsBlind.Lamps.isShineOf(LBrickedUpAsBlind$Shelf;III)Z -/
def fX2_isShineOf_48 (ρ : Rho) (k3 : Nat → Int32 → Int32 → Int32 → Int32 → Option Int32) (v0 : Nat) (v1 : Int32) (v2 : Int32) (v3 : Int32) (v4 : Int32) : Option Int32 :=
    k3 v0 v1 v2 v3 (v4 + 1)
def fX2_isShineOf_3 (ρ : Rho) : Nat → Nat → Int32 → Int32 → Int32 → Int32 → Option Int32
  | 0, _, _, _, _, _ => none
  | n + 1, v0, v1, v2, v3, v4 =>
    (gI ρ 1 v0 4).bind fun x1 =>
    if x1 ≤ v4 then (nb 1)
    else ((gR ρ 1 v0 5).bind fun x3 =>
    (ldI ρ x3 v4).bind fun x4 =>
    (ckO ρ 1 v0).bind fun x5 =>
    (fX6_untold ρ v0).bind fun x6 =>
    if x4 = x6 then (fX2_isShineOf_48 ρ (fX2_isShineOf_3 ρ n) v0 v1 v2 v3 v4)
    else ((fX1_apart ρ v3 v4).bind fun x8 =>
    (fX1_shine ρ v1 v2 x8).bind fun x9 =>
    if x4 = x9 then (fX2_isShineOf_48 ρ (fX2_isShineOf_3 ρ n) v0 v1 v2 v3 v4)
    else (nb 0)))
def fX2_isShineOf (ρ : Rho) (v0 : Nat) (v1 : Int32) (v2 : Int32) (v3 : Int32) : Option Int32 :=
    fX2_isShineOf_3 ρ FU v0 v1 v2 v3 0
abbrev rX2_isShineOf : Room := { frames := 1, cells := 0, slots := 0, locals := 23 }
theorem hdX2_isShineOf : hdP yX2_isShineOf 4 := by unfold hdP; decide +kernel
set_option maxHeartbeats 4000000 in
set_option maxRecDepth 100000 in
theorem kX2_isShineOf (l : Launch) (G : GD) (ρ : Rho) (v0 : Nat) (v1 : Int32) (v2 : Int32) (v3 : Int32) (r : Int32) (hf : fX2_isShineOf ρ v0 v1 v2 v3 = some r) : RM l G yX2_isShineOf (Cond.code yX2_isShineOf cX2_isShineOf 6 (some .boolean) :: LW) rX2_isShineOf ρ [.ref v0, .int v1, .int v2, .int v3] (some (.int r)) := by
  refine RM.ofZ (own := RX2) (by decide) rfl (Nat.le_of_ble_eq_true rfl) ?_
  intro p e s m args below meth c H locs Q hx hb hml hown hts hK hR hret ls hl
  replace hl : lv_has ls 6 [(0, .ref v0), (1, .int v1), (2, .int v2), (3, .int v3)] := hl
  have J48 : ∀ (k3 : Nat → Int32 → Int32 → Int32 → Int32 → Option Int32) (_ : ∀ (v0 : Nat) (v1 : Int32) (v2 : Int32) (v3 : Int32) (v4 : Int32) (ls : Array Slot), k3 v0 v1 v2 v3 v4 = some r → lv_has ls 6 [(0, .ref v0), (1, .int v1), (2, .int v2), (3, .int v3), (4, .int v4)] → W p l e rX2_isShineOf s m args below meth c H locs 0 0 Q (F0 m 3 ls [])), ∀ (v0 : Nat) (v1 : Int32) (v2 : Int32) (v3 : Int32) (v4 : Int32) (ls : Array Slot), fX2_isShineOf_48 ρ k3 v0 v1 v2 v3 v4 = some r → lv_has ls 6 [(0, .ref v0), (1, .int v1), (2, .int v2), (3, .int v3), (4, .int v4)] → W p l e rX2_isShineOf s m args below meth c H locs 0 0 Q (F0 m 48 ls []) := by
    intro k3 hk3 v0 v1 v2 v3 v4 ls hf hl
    rw [fX2_isShineOf_48] at hf
    refine lv_iinc (v := (v4 + 1)) (lv' := [(4, .int (v4 + 1)), (0, .ref v0), (1, .int v1), (2, .int v2), (3, .int v3)]) hx hb dX2_isShineOf_48 hl (k := 4) rfl rfl (by decide) rfl (fun ls hl => ?_)
    refine lv_goto (tgt := 3) hx hb dX2_isShineOf_51 (by decide) ?_
    exact hk3 v0 v1 v2 v3 (v4 + 1) ls hf (lv_sub hl [1, 2, 3, 4, 0] rfl)
  have L3 : ∀ (n : Nat) (v0 : Nat) (v1 : Int32) (v2 : Int32) (v3 : Int32) (v4 : Int32) (ls : Array Slot), fX2_isShineOf_3 ρ n v0 v1 v2 v3 v4 = some r → lv_has ls 6 [(0, .ref v0), (1, .int v1), (2, .int v2), (3, .int v3), (4, .int v4)] → W p l e rX2_isShineOf s m args below meth c H locs 0 0 Q (F0 m 3 ls []) := by
    intro n
    induction n with
    | zero =>
      intro v0 v1 v2 v3 v4 ls hf
      rw [fX2_isShineOf_3] at hf
      cases hf
    | succ n ih =>
      intro v0 v1 v2 v3 v4 ls hf hl
      rw [fX2_isShineOf_3] at hf
      refine lv_iload hx hb dX2_isShineOf_3 (lv_at hl 4 rfl) ?_
      refine lv_aload_n hx hb dX2_isShineOf_5 rfl (lv_at hl 0 rfl) ?_
      obtain ⟨x1, h1, hf⟩ := Option.bind_eq_some_iff.mp hf
      refine r_gI hx hb hts inX6 hown hK hR rfl 4 (by decide) (hts _ tw_1_112) h1 dX2_isShineOf_6 ?_
      refine lv_icmp_ge (tgt := 54) hx hb dX2_isShineOf_9 (by decide) (fun c2 => ?_) (fun c2 => ?_)
      · replace hf := (if_pos c2).symm.trans hf
        refine lv_iconst (v := 1) hx hb dX2_isShineOf_54 (by decide) ?_
        exact hret _ _ _ dX2_isShineOf_55 hf
      · replace hf := (if_neg c2).symm.trans hf
        refine lv_aload_n hx hb dX2_isShineOf_12 rfl (lv_at hl 0 rfl) ?_
        obtain ⟨x3, h3, hf⟩ := Option.bind_eq_some_iff.mp hf
        refine r_gR hx hb hts inX6 hown hK hR rfl 5 (by decide) (hts _ tw_1_117) h3 dX2_isShineOf_13 ?_
        refine lv_iload hx hb dX2_isShineOf_16 (lv_at hl 4 rfl) ?_
        obtain ⟨x4, h4, hf⟩ := Option.bind_eq_some_iff.mp hf
        refine r_ldI hx hb hK hR h4 dX2_isShineOf_18 ?_
        refine lv_istore (lv' := [(5, .int x4), (0, .ref v0), (1, .int v1), (2, .int v2), (3, .int v3), (4, .int v4)]) hx hb dX2_isShineOf_19 hl (by decide) rfl (fun ls hl => ?_)
        refine lv_iload hx hb dX2_isShineOf_21 (lv_at hl 0 rfl) ?_
        refine lv_aload_n hx hb dX2_isShineOf_23 rfl (lv_at hl 1 rfl) ?_
        obtain ⟨x5, h5, hf⟩ := Option.bind_eq_some_iff.mp hf
        obtain ⟨x6, h6, hf⟩ := Option.bind_eq_some_iff.mp hf
        refine r_callV (As := []) (rest := [.int x4]) (st1 := [.int x6, .int x4]) ⟨hx, hb, hml, hown, hts⟩ (kX6_untold l G ρ v0 _ h6) (cu_V hts tw_3_83 tw_3_80 tw_3_81 tw_3_82 tw_1_3 hdX6_untold rfl rfl ⟨Nat.le_of_ble_eq_true rfl, Nat.le_of_ble_eq_true rfl⟩) hK hR rfl h5 rfl hl.1 rfl (Nat.le_of_ble_eq_true rfl) dX2_isShineOf_24 ⟨Nat.zero_le _, Nat.zero_le _⟩ rfl ?_
        refine lv_icmp_eq (tgt := 48) hx hb dX2_isShineOf_27 (by decide) (fun c7 => ?_) (fun c7 => ?_)
        · replace hf := (if_pos c7).symm.trans hf
          exact J48 _ ih v0 v1 v2 v3 v4 ls hf (lv_sub hl [1, 2, 3, 4, 5] rfl)
        · replace hf := (if_neg c7).symm.trans hf
          refine lv_iload hx hb dX2_isShineOf_30 (lv_at hl 0 rfl) ?_
          refine lv_iload_n hx hb dX2_isShineOf_32 rfl (lv_at hl 2 rfl) ?_
          refine lv_iload_n hx hb dX2_isShineOf_33 rfl (lv_at hl 3 rfl) ?_
          refine lv_iload_n hx hb dX2_isShineOf_34 rfl (lv_at hl 4 rfl) ?_
          refine lv_iload hx hb dX2_isShineOf_35 (lv_at hl 5 rfl) ?_
          obtain ⟨x8, h8, hf⟩ := Option.bind_eq_some_iff.mp hf
          refine r_callS (As := [.int v3, .int v4]) (rest := [.int v2, .int v1, .int x4]) (st1 := [.int x8, .int v2, .int v1, .int x4]) ⟨hx, hb, hml, hown, hts⟩ (kX1_apart l G ρ v3 v4 _ h8) (cu_S hts tw_2_15 tw_3_85 tw_2_14 tw_1_7 hdX1_apart rfl rfl ⟨Nat.le_of_ble_eq_true rfl, Nat.le_of_ble_eq_true rfl⟩) hK hR rfl hl.1 rfl (Nat.le_of_ble_eq_true rfl) dX2_isShineOf_37 ⟨Nat.zero_le _, Nat.zero_le _⟩ rfl ?_
          obtain ⟨x9, h9, hf⟩ := Option.bind_eq_some_iff.mp hf
          refine r_callS (As := [.int v1, .int v2, .int x8]) (rest := [.int x4]) (st1 := [.int x9, .int x4]) ⟨hx, hb, hml, hown, hts⟩ (kX1_shine l G ρ v1 v2 x8 _ h9) (cu_S hts tw_2_48 tw_3_86 tw_2_47 tw_1_7 hdX1_shine rfl rfl ⟨Nat.le_of_ble_eq_true rfl, Nat.le_of_ble_eq_true rfl⟩) hK hR rfl hl.1 rfl (Nat.le_of_ble_eq_true rfl) dX2_isShineOf_40 ⟨Nat.zero_le _, Nat.zero_le _⟩ rfl ?_
          refine lv_icmp_eq (tgt := 48) hx hb dX2_isShineOf_43 (by decide) (fun c10 => ?_) (fun c10 => ?_)
          · replace hf := (if_pos c10).symm.trans hf
            exact J48 _ ih v0 v1 v2 v3 v4 ls hf (lv_sub hl [1, 2, 3, 4, 5] rfl)
          · replace hf := (if_neg c10).symm.trans hf
            refine lv_iconst (v := 0) hx hb dX2_isShineOf_46 (by decide) ?_
            exact hret _ _ _ dX2_isShineOf_47 hf
  unfold fX2_isShineOf at hf
  refine lv_iconst (v := 0) hx hb dX2_isShineOf_0 (by decide) ?_
  refine lv_istore (lv' := [(4, .int 0), (0, .ref v0), (1, .int v1), (2, .int v2), (3, .int v3)]) hx hb dX2_isShineOf_1 hl (by decide) rfl (fun ls hl => ?_)
  exact L3 FU v0 v1 v2 v3 0 ls hf (lv_sub hl [1, 2, 3, 4, 0] rfl)
/-! BrickedUpAsBlind.Lamps.kindsThatShine(LBrickedUpAsBlind$Shelf;II)I -/
def fX2_kindsThatShine_30 (ρ : Rho) (k5 : Nat → Int32 → Int32 → Int32 → Int32 → Option Int32) (v0 : Nat) (v1 : Int32) (v2 : Int32) (v3 : Int32) (v4 : Int32) : Option Int32 :=
    k5 v0 v1 v2 v3 (v4 + 1)
def fX2_kindsThatShine_5 (ρ : Rho) : Nat → Nat → Int32 → Int32 → Int32 → Int32 → Option Int32
  | 0, _, _, _, _, _ => none
  | n + 1, v0, v1, v2, v3, v4 =>
    if (8 : Int32) ≤ v4 then (some v3)
    else ((fX2_isShineOf ρ v0 v4 v1 v2).bind fun x2 =>
    if x2 = 0 then (fX2_kindsThatShine_30 ρ (fX2_kindsThatShine_5 ρ n) v0 v1 v2 v3 v4)
    else (fX2_kindsThatShine_30 ρ (fX2_kindsThatShine_5 ρ n) v0 v1 v2 (v3 ||| ((1 : Int32) <<< (v4 &&& 31))) v4))
def fX2_kindsThatShine (ρ : Rho) (v0 : Nat) (v1 : Int32) (v2 : Int32) : Option Int32 :=
    fX2_kindsThatShine_5 ρ FU v0 v1 v2 0 0
abbrev rX2_kindsThatShine : Room := { frames := 2, cells := 0, slots := 0, locals := 48 }
theorem hdX2_kindsThatShine : hdP yX2_kindsThatShine 3 := by unfold hdP; decide +kernel
set_option maxHeartbeats 4000000 in
set_option maxRecDepth 100000 in
theorem kX2_kindsThatShine (l : Launch) (G : GD) (ρ : Rho) (v0 : Nat) (v1 : Int32) (v2 : Int32) (r : Int32) (hf : fX2_kindsThatShine ρ v0 v1 v2 = some r) : RM l G yX2_kindsThatShine (Cond.code yX2_kindsThatShine cX2_kindsThatShine 5 (some .int) :: LW) rX2_kindsThatShine ρ [.ref v0, .int v1, .int v2] (some (.int r)) := by
  refine RM.ofI (own := RX2) (by decide) rfl (Nat.le_of_ble_eq_true rfl) ?_
  intro p e s m args below meth c H locs Q hx hb hml hown hts hK hR hret ls hl
  replace hl : lv_has ls 5 [(0, .ref v0), (1, .int v1), (2, .int v2)] := hl
  have J30 : ∀ (k5 : Nat → Int32 → Int32 → Int32 → Int32 → Option Int32) (_ : ∀ (v0 : Nat) (v1 : Int32) (v2 : Int32) (v3 : Int32) (v4 : Int32) (ls : Array Slot), k5 v0 v1 v2 v3 v4 = some r → lv_has ls 5 [(0, .ref v0), (1, .int v1), (2, .int v2), (3, .int v3), (4, .int v4)] → W p l e rX2_kindsThatShine s m args below meth c H locs 0 0 Q (F0 m 5 ls [])), ∀ (v0 : Nat) (v1 : Int32) (v2 : Int32) (v3 : Int32) (v4 : Int32) (ls : Array Slot), fX2_kindsThatShine_30 ρ k5 v0 v1 v2 v3 v4 = some r → lv_has ls 5 [(0, .ref v0), (1, .int v1), (2, .int v2), (3, .int v3), (4, .int v4)] → W p l e rX2_kindsThatShine s m args below meth c H locs 0 0 Q (F0 m 30 ls []) := by
    intro k5 hk5 v0 v1 v2 v3 v4 ls hf hl
    rw [fX2_kindsThatShine_30] at hf
    refine lv_iinc (v := (v4 + 1)) (lv' := [(4, .int (v4 + 1)), (0, .ref v0), (1, .int v1), (2, .int v2), (3, .int v3)]) hx hb dX2_kindsThatShine_30 hl (k := 4) rfl rfl (by decide) rfl (fun ls hl => ?_)
    refine lv_goto (tgt := 5) hx hb dX2_kindsThatShine_33 (by decide) ?_
    exact hk5 v0 v1 v2 v3 (v4 + 1) ls hf (lv_sub hl [1, 2, 3, 4, 0] rfl)
  have L5 : ∀ (n : Nat) (v0 : Nat) (v1 : Int32) (v2 : Int32) (v3 : Int32) (v4 : Int32) (ls : Array Slot), fX2_kindsThatShine_5 ρ n v0 v1 v2 v3 v4 = some r → lv_has ls 5 [(0, .ref v0), (1, .int v1), (2, .int v2), (3, .int v3), (4, .int v4)] → W p l e rX2_kindsThatShine s m args below meth c H locs 0 0 Q (F0 m 5 ls []) := by
    intro n
    induction n with
    | zero =>
      intro v0 v1 v2 v3 v4 ls hf
      rw [fX2_kindsThatShine_5] at hf
      cases hf
    | succ n ih =>
      intro v0 v1 v2 v3 v4 ls hf hl
      rw [fX2_kindsThatShine_5] at hf
      refine lv_iload hx hb dX2_kindsThatShine_5 (lv_at hl 4 rfl) ?_
      refine lv_bipush (v := 8) hx hb dX2_kindsThatShine_7 (by decide) ?_
      refine lv_icmp_ge (tgt := 36) hx hb dX2_kindsThatShine_9 (by decide) (fun c1 => ?_) (fun c1 => ?_)
      · replace hf := (if_pos c1).symm.trans hf
        refine lv_iload_n hx hb dX2_kindsThatShine_36 rfl (lv_at hl 3 rfl) ?_
        exact hret _ _ _ dX2_kindsThatShine_37 hf
      · replace hf := (if_neg c1).symm.trans hf
        refine lv_aload_n hx hb dX2_kindsThatShine_12 rfl (lv_at hl 0 rfl) ?_
        refine lv_iload hx hb dX2_kindsThatShine_13 (lv_at hl 4 rfl) ?_
        refine lv_iload_n hx hb dX2_kindsThatShine_15 rfl (lv_at hl 1 rfl) ?_
        refine lv_iload_n hx hb dX2_kindsThatShine_16 rfl (lv_at hl 2 rfl) ?_
        obtain ⟨x2, h2, hf⟩ := Option.bind_eq_some_iff.mp hf
        refine r_callS (As := [.ref v0, .int v4, .int v1, .int v2]) (rest := []) (st1 := [.int x2]) ⟨hx, hb, hml, hown, hts⟩ (kX2_isShineOf l G ρ v0 v4 v1 v2 _ h2) (cu_S hts tw_3_79 tw_3_77 tw_3_78 tw_1_9 hdX2_isShineOf rfl rfl ⟨Nat.le_of_ble_eq_true rfl, Nat.le_of_ble_eq_true rfl⟩) hK hR rfl hl.1 rfl (Nat.le_of_ble_eq_true rfl) dX2_kindsThatShine_17 ⟨Nat.zero_le _, Nat.zero_le _⟩ rfl ?_
        refine lv_if_eq (tgt := 30) hx hb dX2_kindsThatShine_20 (by decide) (fun c3 => ?_) (fun c3 => ?_)
        · replace hf := (if_pos c3).symm.trans hf
          exact J30 _ ih v0 v1 v2 v3 v4 ls hf (lv_sub hl [0, 1, 2, 3, 4] rfl)
        · replace hf := (if_neg c3).symm.trans hf
          refine lv_iload_n hx hb dX2_kindsThatShine_23 rfl (lv_at hl 3 rfl) ?_
          refine lv_iconst (v := 1) hx hb dX2_kindsThatShine_24 (by decide) ?_
          refine lv_iload hx hb dX2_kindsThatShine_25 (lv_at hl 4 rfl) ?_
          refine lv_ishl hx hb dX2_kindsThatShine_27 ?_
          refine lv_ior hx hb dX2_kindsThatShine_28 ?_
          refine lv_istore_n (lv' := [(3, .int (v3 ||| ((1 : Int32) <<< (v4 &&& 31)))), (0, .ref v0), (1, .int v1), (2, .int v2), (4, .int v4)]) hx hb dX2_kindsThatShine_29 rfl hl (by decide) rfl (fun ls hl => ?_)
          exact J30 _ ih v0 v1 v2 (v3 ||| ((1 : Int32) <<< (v4 &&& 31))) v4 ls hf (lv_sub hl [1, 2, 3, 0, 4] rfl)
  unfold fX2_kindsThatShine at hf
  refine lv_iconst (v := 0) hx hb dX2_kindsThatShine_0 (by decide) ?_
  refine lv_istore_n (lv' := [(3, .int 0), (0, .ref v0), (1, .int v1), (2, .int v2)]) hx hb dX2_kindsThatShine_1 rfl hl (by decide) rfl (fun ls hl => ?_)
  refine lv_iconst (v := 0) hx hb dX2_kindsThatShine_2 (by decide) ?_
  refine lv_istore (lv' := [(4, .int 0), (3, .int 0), (0, .ref v0), (1, .int v1), (2, .int v2)]) hx hb dX2_kindsThatShine_3 hl (by decide) rfl (fun ls hl => ?_)
  exact L5 FU v0 v1 v2 0 0 ls hf (lv_sub hl [2, 3, 4, 1, 0] rfl)
/-! BrickedUpAsBlind.Ledger.yearPaidOff(LBrickedUpAsBlind$House;I)I -/
def fX3_yearPaidOff_7 (ρ : Rho) : Nat → Nat → Int32 → Int32 → Int32 → Option Int32
  | 0, _, _, _, _ => none
  | n + 1, v0, v1, v2, v3 =>
    if (60 : Int32) < v3 then (some (-4))
    else (if v2 = 0 then (some v3)
    else ((gI ρ 0 v0 7).bind fun x3 =>
    (ckO ρ 0 v0).bind fun x4 =>
    (fX0_owedBehindYear ρ v0 v2 x3).bind fun x5 =>
    fX3_yearPaidOff_7 ρ n v0 v1 (if (0 : Int32) < (x5 - v1) then (x5 - v1) else 0) (v3 + 1)))
def fX3_yearPaidOff (ρ : Rho) (v0 : Nat) (v1 : Int32) : Option Int32 :=
    (gI ρ 0 v0 9).bind fun x6 =>
    fX3_yearPaidOff_7 ρ FU v0 v1 x6 0
abbrev rX3_yearPaidOff : Room := { frames := 3, cells := 0, slots := 0, locals := 88 }
theorem hdX3_yearPaidOff : hdP yX3_yearPaidOff 2 := by unfold hdP; decide +kernel
set_option maxHeartbeats 4000000 in
set_option maxRecDepth 100000 in
theorem kX3_yearPaidOff (l : Launch) (G : GD) (ρ : Rho) (v0 : Nat) (v1 : Int32) (r : Int32) (hf : fX3_yearPaidOff ρ v0 v1 = some r) : RM l G yX3_yearPaidOff (Cond.code yX3_yearPaidOff cX3_yearPaidOff 4 (some .int) :: LW) rX3_yearPaidOff ρ [.ref v0, .int v1] (some (.int r)) := by
  refine RM.ofI (own := RX3) (by decide) rfl (Nat.le_of_ble_eq_true rfl) ?_
  intro p e s m args below meth c H locs Q hx hb hml hown hts hK hR hret ls hl
  replace hl : lv_has ls 4 [(0, .ref v0), (1, .int v1)] := hl
  have L7 : ∀ (n : Nat) (v0 : Nat) (v1 : Int32) (v2 : Int32) (v3 : Int32) (ls : Array Slot), fX3_yearPaidOff_7 ρ n v0 v1 v2 v3 = some r → lv_has ls 4 [(0, .ref v0), (1, .int v1), (2, .int v2), (3, .int v3)] → W p l e rX3_yearPaidOff s m args below meth c H locs 0 0 Q (F0 m 7 ls []) := by
    intro n
    induction n with
    | zero =>
      intro v0 v1 v2 v3 ls hf
      rw [fX3_yearPaidOff_7] at hf
      cases hf
    | succ n ih =>
      intro v0 v1 v2 v3 ls hf hl
      rw [fX3_yearPaidOff_7] at hf
      refine lv_iload_n hx hb dX3_yearPaidOff_7 rfl (lv_at hl 3 rfl) ?_
      refine lv_bipush (v := 60) hx hb dX3_yearPaidOff_8 (by decide) ?_
      refine lv_icmp_gt (tgt := 41) hx hb dX3_yearPaidOff_10 (by decide) (fun c1 => ?_) (fun c1 => ?_)
      · replace hf := (if_pos c1).symm.trans hf
        refine lv_bipush (v := (-4)) hx hb dX3_yearPaidOff_41 (by decide) ?_
        exact hret _ _ _ dX3_yearPaidOff_43 hf
      · replace hf := (if_neg c1).symm.trans hf
        refine lv_iload_n hx hb dX3_yearPaidOff_13 rfl (lv_at hl 2 rfl) ?_
        refine lv_if_ne (tgt := 19) hx hb dX3_yearPaidOff_14 (by decide) (fun c2 => ?_) (fun c2 => ?_)
        · replace hf := (if_neg c2).symm.trans hf
          refine lv_iconst (v := 0) hx hb dX3_yearPaidOff_19 (by decide) ?_
          refine lv_aload_n hx hb dX3_yearPaidOff_20 rfl (lv_at hl 0 rfl) ?_
          refine lv_iload_n hx hb dX3_yearPaidOff_21 rfl (lv_at hl 2 rfl) ?_
          refine lv_aload_n hx hb dX3_yearPaidOff_22 rfl (lv_at hl 0 rfl) ?_
          obtain ⟨x3, h3, hf⟩ := Option.bind_eq_some_iff.mp hf
          refine r_gI hx hb hts inX0 hown hK hR rfl 7 (by decide) (hts _ tw_1_59) h3 dX3_yearPaidOff_23 ?_
          obtain ⟨x4, h4, hf⟩ := Option.bind_eq_some_iff.mp hf
          obtain ⟨x5, h5, hf⟩ := Option.bind_eq_some_iff.mp hf
          refine r_callV (As := [.int v2, .int x3]) (rest := [.int 0]) (st1 := [.int x5, .int 0]) ⟨hx, hb, hml, hown, hts⟩ (kX0_owedBehindYear l G ρ v0 v2 x3 _ h5) (cu_V hts tw_2_1 tw_3_96 tw_1_239 tw_2_0 tw_1_2 hdX0_owedBehindYear rfl rfl ⟨Nat.le_of_ble_eq_true rfl, Nat.le_of_ble_eq_true rfl⟩) hK hR rfl h4 rfl hl.1 rfl (Nat.le_of_ble_eq_true rfl) dX3_yearPaidOff_26 ⟨Nat.zero_le _, Nat.zero_le _⟩ rfl ?_
          refine lv_iload_n hx hb dX3_yearPaidOff_29 rfl (lv_at hl 1 rfl) ?_
          refine lv_isub hx hb dX3_yearPaidOff_30 ?_
          refine va_mmax hx hb (hml.trans hl.1.symm) hown (hts _ tw_3_97) (hts _ tw_2_62) (hts _ tw_1_8) (hts _ tw_2_63) (Nat.le_of_ble_eq_true rfl) (Nat.le_of_ble_eq_true rfl) (Nat.zero_le _) (Nat.zero_le _) dX3_yearPaidOff_31 ?_
          refine lv_istore_n (lv' := [(2, .int (if (0 : Int32) < (x5 - v1) then (x5 - v1) else 0)), (0, .ref v0), (1, .int v1), (3, .int v3)]) hx hb dX3_yearPaidOff_34 rfl hl (by decide) rfl (fun ls hl => ?_)
          refine lv_iinc (v := (v3 + 1)) (lv' := [(3, .int (v3 + 1)), (2, .int (if (0 : Int32) < (x5 - v1) then (x5 - v1) else 0)), (0, .ref v0), (1, .int v1)]) hx hb dX3_yearPaidOff_35 hl (k := 3) rfl rfl (by decide) rfl (fun ls hl => ?_)
          refine lv_goto (tgt := 7) hx hb dX3_yearPaidOff_38 (by decide) ?_
          exact ih v0 v1 (if (0 : Int32) < (x5 - v1) then (x5 - v1) else 0) (v3 + 1) ls hf (lv_sub hl [2, 3, 1, 0] rfl)
        · replace hf := (if_pos c2).symm.trans hf
          refine lv_iload_n hx hb dX3_yearPaidOff_17 rfl (lv_at hl 3 rfl) ?_
          exact hret _ _ _ dX3_yearPaidOff_18 hf
  unfold fX3_yearPaidOff at hf
  refine lv_aload_n hx hb dX3_yearPaidOff_0 rfl (lv_at hl 0 rfl) ?_
  obtain ⟨x6, h6, hf⟩ := Option.bind_eq_some_iff.mp hf
  refine r_gI hx hb hts inX0 hown hK hR rfl 9 (by decide) (hts _ tw_1_66) h6 dX3_yearPaidOff_1 ?_
  refine lv_istore_n (lv' := [(2, .int x6), (0, .ref v0), (1, .int v1)]) hx hb dX3_yearPaidOff_4 rfl hl (by decide) rfl (fun ls hl => ?_)
  refine lv_iconst (v := 0) hx hb dX3_yearPaidOff_5 (by decide) ?_
  refine lv_istore_n (lv' := [(3, .int 0), (2, .int x6), (0, .ref v0), (1, .int v1)]) hx hb dX3_yearPaidOff_6 rfl hl (by decide) rfl (fun ls hl => ?_)
  exact L7 FU v0 v1 x6 0 ls hf (lv_sub hl [2, 3, 1, 0] rfl)
/-! BrickedUpAsBlind.Ledger.lacksMore(LBrickedUpAsBlind$House;LBrickedUpAsBlind$House;)Z -/
def fX3_lacksMore_2 (ρ : Rho) : Nat → Nat → Nat → Int32 → Option Int32
  | 0, _, _, _ => none
  | n + 1, v0, v1, v2 =>
    if (4 : Int32) ≤ v2 then (nb 0)
    else ((gI ρ 0 v0 7).bind fun x2 =>
    (ckO ρ 0 v1).bind fun x3 =>
    (fX0_lackOf ρ v1 v2 x2).bind fun x4 =>
    (gI ρ 0 v0 7).bind fun x5 =>
    (ckO ρ 0 v0).bind fun x6 =>
    (fX0_lackOf ρ v0 v2 x5).bind fun x7 =>
    if x4 ≤ x7 then (fX3_lacksMore_2 ρ n v0 v1 (v2 + 1))
    else (nb 1))
def fX3_lacksMore (ρ : Rho) (v0 : Nat) (v1 : Nat) : Option Int32 :=
    fX3_lacksMore_2 ρ FU v0 v1 0
abbrev rX3_lacksMore : Room := { frames := 4, cells := 0, slots := 0, locals := 91 }
theorem hdX3_lacksMore : hdP yX3_lacksMore 2 := by unfold hdP; decide +kernel
set_option maxHeartbeats 4000000 in
set_option maxRecDepth 100000 in
theorem kX3_lacksMore (l : Launch) (G : GD) (ρ : Rho) (v0 : Nat) (v1 : Nat) (r : Int32) (hf : fX3_lacksMore ρ v0 v1 = some r) : RM l G yX3_lacksMore (Cond.code yX3_lacksMore cX3_lacksMore 3 (some .boolean) :: LW) rX3_lacksMore ρ [.ref v0, .ref v1] (some (.int r)) := by
  refine RM.ofZ (own := RX3) (by decide) rfl (Nat.le_of_ble_eq_true rfl) ?_
  intro p e s m args below meth c H locs Q hx hb hml hown hts hK hR hret ls hl
  replace hl : lv_has ls 3 [(0, .ref v0), (1, .ref v1)] := hl
  have L2 : ∀ (n : Nat) (v0 : Nat) (v1 : Nat) (v2 : Int32) (ls : Array Slot), fX3_lacksMore_2 ρ n v0 v1 v2 = some r → lv_has ls 3 [(0, .ref v0), (1, .ref v1), (2, .int v2)] → W p l e rX3_lacksMore s m args below meth c H locs 0 0 Q (F0 m 2 ls []) := by
    intro n
    induction n with
    | zero =>
      intro v0 v1 v2 ls hf
      rw [fX3_lacksMore_2] at hf
      cases hf
    | succ n ih =>
      intro v0 v1 v2 ls hf hl
      rw [fX3_lacksMore_2] at hf
      refine lv_iload_n hx hb dX3_lacksMore_2 rfl (lv_at hl 2 rfl) ?_
      refine lv_iconst (v := 4) hx hb dX3_lacksMore_3 (by decide) ?_
      refine lv_icmp_ge (tgt := 36) hx hb dX3_lacksMore_4 (by decide) (fun c1 => ?_) (fun c1 => ?_)
      · replace hf := (if_pos c1).symm.trans hf
        refine lv_iconst (v := 0) hx hb dX3_lacksMore_36 (by decide) ?_
        exact hret _ _ _ dX3_lacksMore_37 hf
      · replace hf := (if_neg c1).symm.trans hf
        refine lv_aload_n hx hb dX3_lacksMore_7 rfl (lv_at hl 1 rfl) ?_
        refine lv_iload_n hx hb dX3_lacksMore_8 rfl (lv_at hl 2 rfl) ?_
        refine lv_aload_n hx hb dX3_lacksMore_9 rfl (lv_at hl 0 rfl) ?_
        obtain ⟨x2, h2, hf⟩ := Option.bind_eq_some_iff.mp hf
        refine r_gI hx hb hts inX0 hown hK hR rfl 7 (by decide) (hts _ tw_1_59) h2 dX3_lacksMore_10 ?_
        obtain ⟨x3, h3, hf⟩ := Option.bind_eq_some_iff.mp hf
        obtain ⟨x4, h4, hf⟩ := Option.bind_eq_some_iff.mp hf
        refine r_callV (As := [.int v2, .int x2]) (rest := []) (st1 := [.int x4]) ⟨hx, hb, hml, hown, hts⟩ (kX0_lackOf l G ρ v1 v2 x2 _ h4) (cu_V hts tw_2_133 tw_3_120 tw_2_131 tw_2_132 tw_1_2 hdX0_lackOf rfl rfl ⟨Nat.le_of_ble_eq_true rfl, Nat.le_of_ble_eq_true rfl⟩) hK hR rfl h3 rfl hl.1 rfl (Nat.le_of_ble_eq_true rfl) dX3_lacksMore_13 ⟨Nat.zero_le _, Nat.zero_le _⟩ rfl ?_
        refine lv_aload_n hx hb dX3_lacksMore_16 rfl (lv_at hl 0 rfl) ?_
        refine lv_iload_n hx hb dX3_lacksMore_17 rfl (lv_at hl 2 rfl) ?_
        refine lv_aload_n hx hb dX3_lacksMore_18 rfl (lv_at hl 0 rfl) ?_
        obtain ⟨x5, h5, hf⟩ := Option.bind_eq_some_iff.mp hf
        refine r_gI hx hb hts inX0 hown hK hR rfl 7 (by decide) (hts _ tw_1_59) h5 dX3_lacksMore_19 ?_
        obtain ⟨x6, h6, hf⟩ := Option.bind_eq_some_iff.mp hf
        obtain ⟨x7, h7, hf⟩ := Option.bind_eq_some_iff.mp hf
        refine r_callV (As := [.int v2, .int x5]) (rest := [.int x4]) (st1 := [.int x7, .int x4]) ⟨hx, hb, hml, hown, hts⟩ (kX0_lackOf l G ρ v0 v2 x5 _ h7) (cu_V hts tw_2_133 tw_3_120 tw_2_131 tw_2_132 tw_1_2 hdX0_lackOf rfl rfl ⟨Nat.le_of_ble_eq_true rfl, Nat.le_of_ble_eq_true rfl⟩) hK hR rfl h6 rfl hl.1 rfl (Nat.le_of_ble_eq_true rfl) dX3_lacksMore_22 ⟨Nat.zero_le _, Nat.zero_le _⟩ rfl ?_
        refine lv_icmp_le (tgt := 30) hx hb dX3_lacksMore_25 (by decide) (fun c8 => ?_) (fun c8 => ?_)
        · replace hf := (if_pos c8).symm.trans hf
          refine lv_iinc (v := (v2 + 1)) (lv' := [(2, .int (v2 + 1)), (0, .ref v0), (1, .ref v1)]) hx hb dX3_lacksMore_30 hl (k := 2) rfl rfl (by decide) rfl (fun ls hl => ?_)
          refine lv_goto (tgt := 2) hx hb dX3_lacksMore_33 (by decide) ?_
          exact ih v0 v1 (v2 + 1) ls hf (lv_sub hl [1, 2, 0] rfl)
        · replace hf := (if_neg c8).symm.trans hf
          refine lv_iconst (v := 1) hx hb dX3_lacksMore_28 (by decide) ?_
          exact hret _ _ _ dX3_lacksMore_29 hf
  unfold fX3_lacksMore at hf
  refine lv_iconst (v := 0) hx hb dX3_lacksMore_0 (by decide) ?_
  refine lv_istore_n (lv' := [(2, .int 0), (0, .ref v0), (1, .ref v1)]) hx hb dX3_lacksMore_1 rfl hl (by decide) rfl (fun ls hl => ?_)
  exact L2 FU v0 v1 0 ls hf (lv_sub hl [1, 2, 0] rfl)
/-! BrickedUpAsBlind.Ledger.cheapestChange(LBrickedUpAsBlind$House;LBrickedUpAsBlind$House;)I -/
def fX3_cheapestChange_71 (k11 : Rho → Nat → Nat → Int32 → Int32 → Int32 → Option (Int32 × Rho)) (k23 : Rho → Nat → Nat → Int32 → Int32 → Int32 → Int32 → Option (Int32 × Rho)) (ρ : Rho) (v0 : Nat) (v1 : Nat) (v2 : Int32) (v3 : Int32) (v4 : Int32) (v5 : Int32) : Option (Int32 × Rho) :=
    k23 ρ v0 v1 v2 v3 v4 (v5 + 1)
def fX3_cheapestChange_23 (k11 : Rho → Nat → Nat → Int32 → Int32 → Int32 → Option (Int32 × Rho)) : Nat → Rho → Nat → Nat → Int32 → Int32 → Int32 → Int32 → Option (Int32 × Rho)
  | 0, _, _, _, _, _, _, _ => none
  | n + 1, ρ, v0, v1, v2, v3, v4, v5 =>
    if (8 : Int32) ≤ v5 then ((gR ρ 0 v1 0).bind fun x2 =>
    (gR ρ 0 v0 0).bind fun x3 =>
    (ldI ρ x3 v4).bind fun x4 =>
    (stI ρ x2 v4 x4).bind fun x5 =>
    k11 x5 v0 v1 v2 v3 (v4 + 1))
    else ((gR ρ 0 v1 0).bind fun x6 =>
    (stI ρ x6 v4 v5).bind fun x7 =>
    (ckO x7 0 v1).bind fun x8 =>
    (fX0_openDues x7 v1).bind fun x9 =>
    if v3 ≤ x9 then (fX3_cheapestChange_71 k11 (fX3_cheapestChange_23 k11 n) x7 v0 v1 v2 v3 v4 v5)
    else ((fX3_lacksMore x7 v0 v1).bind fun x11 =>
    if x11 = 0 then (fX3_cheapestChange_71 k11 (fX3_cheapestChange_23 k11 n) x7 v0 v1 (((10 : Int32) * v4) + v5) x9 v4 v5)
    else (fX3_cheapestChange_71 k11 (fX3_cheapestChange_23 k11 n) x7 v0 v1 v2 v3 v4 v5)))
def fX3_cheapestChange_11 : Nat → Rho → Nat → Nat → Int32 → Int32 → Int32 → Option (Int32 × Rho)
  | 0, _, _, _, _, _, _ => none
  | n + 1, ρ, v0, v1, v2, v3, v4 =>
    (gI ρ 0 v0 5).bind fun x13 =>
    if x13 ≤ v4 then (some (v2, ρ))
    else (fX3_cheapestChange_23 (fX3_cheapestChange_11 n) FU ρ v0 v1 v2 v3 v4 0)
def fX3_cheapestChange (ρ : Rho) (v0 : Nat) (v1 : Nat) : Option (Int32 × Rho) :=
    (ckO ρ 0 v0).bind fun x15 =>
    (fX0_openDues ρ v0).bind fun x16 =>
    fX3_cheapestChange_11 FU ρ v0 v1 (-4) x16 0
abbrev rX3_cheapestChange : Room := { frames := 5, cells := 0, slots := 0, locals := 113 }
theorem hdX3_cheapestChange : hdP yX3_cheapestChange 2 := by unfold hdP; decide +kernel
set_option maxHeartbeats 4000000 in
set_option maxRecDepth 100000 in
theorem kX3_cheapestChange (l : Launch) (G : GD) (ρ : Rho) (v0 : Nat) (v1 : Nat) (r0 : Int32) (ρ1 : Rho) (hf : fX3_cheapestChange ρ v0 v1 = some (r0, ρ1)) : WM l G yX3_cheapestChange (Cond.code yX3_cheapestChange cX3_cheapestChange 7 (some .int) :: LW) rX3_cheapestChange ρ [.ref v0, .ref v1] (some (.int r0)) ρ1 := by
  obtain ⟨r, hr⟩ : ∃ r, r = (r0, ρ1) := ⟨_, rfl⟩
  rw [← hr] at hf
  refine WM.ofI (own := RX3) (r := r) hr (by decide) rfl (Nat.le_of_ble_eq_true rfl) ?_
  intro p e s m args below meth c H locs Q hx hb hml hown hts hK hR hS hret ls hl
  obtain ⟨ρ0, hρ0⟩ : ∃ z, z = ρ := ⟨_, rfl⟩
  rw [← hρ0] at hret
  replace hS : WS ρ0 s.heap ρ H locs := hρ0 ▸ hS
  replace hl : lv_has ls 7 [(0, .ref v0), (1, .ref v1)] := hl
  have J71 : ∀ (k11 : Rho → Nat → Nat → Int32 → Int32 → Int32 → Option (Int32 × Rho)) (_ : ∀ (ρ : Rho) (v0 : Nat) (v1 : Nat) (v2 : Int32) (v3 : Int32) (v4 : Int32) (H : Heap) (locs : List Loc) (ls : Array Slot), k11 ρ v0 v1 v2 v3 v4 = some r → lv_has ls 7 [(0, .ref v0), (1, .ref v1), (2, .int v2), (3, .int v3), (4, .int v4)] → RW G ρ H → WS ρ0 s.heap ρ H locs → W p l e rX3_cheapestChange s m args below meth c H locs 0 0 Q (F0 m 11 ls [])), ∀ (k23 : Rho → Nat → Nat → Int32 → Int32 → Int32 → Int32 → Option (Int32 × Rho)) (_ : ∀ (ρ : Rho) (v0 : Nat) (v1 : Nat) (v2 : Int32) (v3 : Int32) (v4 : Int32) (v5 : Int32) (H : Heap) (locs : List Loc) (ls : Array Slot), k23 ρ v0 v1 v2 v3 v4 v5 = some r → lv_has ls 7 [(0, .ref v0), (1, .ref v1), (2, .int v2), (3, .int v3), (4, .int v4), (5, .int v5)] → RW G ρ H → WS ρ0 s.heap ρ H locs → W p l e rX3_cheapestChange s m args below meth c H locs 0 0 Q (F0 m 23 ls [])), ∀ (ρ : Rho) (v0 : Nat) (v1 : Nat) (v2 : Int32) (v3 : Int32) (v4 : Int32) (v5 : Int32) (H : Heap) (locs : List Loc) (ls : Array Slot), fX3_cheapestChange_71 k11 k23 ρ v0 v1 v2 v3 v4 v5 = some r → lv_has ls 7 [(0, .ref v0), (1, .ref v1), (2, .int v2), (3, .int v3), (4, .int v4), (5, .int v5)] → RW G ρ H → WS ρ0 s.heap ρ H locs → W p l e rX3_cheapestChange s m args below meth c H locs 0 0 Q (F0 m 71 ls []) := by
    intro k11 hk11 k23 hk23 ρ v0 v1 v2 v3 v4 v5 H locs ls hf hl hR hS
    rw [fX3_cheapestChange_71] at hf
    refine lv_iinc (v := (v5 + 1)) (lv' := [(5, .int (v5 + 1)), (0, .ref v0), (1, .ref v1), (2, .int v2), (3, .int v3), (4, .int v4)]) hx hb dX3_cheapestChange_71 hl (k := 5) rfl rfl (by decide) rfl (fun ls hl => ?_)
    refine lv_goto (tgt := 23) hx hb dX3_cheapestChange_74 (by decide) ?_
    exact hk23 ρ v0 v1 v2 v3 v4 (v5 + 1) H locs ls hf (lv_sub hl [1, 2, 3, 4, 5, 0] rfl) hR hS
  have L23 : ∀ (k11 : Rho → Nat → Nat → Int32 → Int32 → Int32 → Option (Int32 × Rho)) (_ : ∀ (ρ : Rho) (v0 : Nat) (v1 : Nat) (v2 : Int32) (v3 : Int32) (v4 : Int32) (H : Heap) (locs : List Loc) (ls : Array Slot), k11 ρ v0 v1 v2 v3 v4 = some r → lv_has ls 7 [(0, .ref v0), (1, .ref v1), (2, .int v2), (3, .int v3), (4, .int v4)] → RW G ρ H → WS ρ0 s.heap ρ H locs → W p l e rX3_cheapestChange s m args below meth c H locs 0 0 Q (F0 m 11 ls [])), ∀ (n : Nat) (ρ : Rho) (v0 : Nat) (v1 : Nat) (v2 : Int32) (v3 : Int32) (v4 : Int32) (v5 : Int32) (H : Heap) (locs : List Loc) (ls : Array Slot), fX3_cheapestChange_23 k11 n ρ v0 v1 v2 v3 v4 v5 = some r → lv_has ls 7 [(0, .ref v0), (1, .ref v1), (2, .int v2), (3, .int v3), (4, .int v4), (5, .int v5)] → RW G ρ H → WS ρ0 s.heap ρ H locs → W p l e rX3_cheapestChange s m args below meth c H locs 0 0 Q (F0 m 23 ls []) := by
    intro k11 hk11 n
    induction n with
    | zero =>
      intro ρ v0 v1 v2 v3 v4 v5 H locs ls hf
      rw [fX3_cheapestChange_23] at hf
      cases hf
    | succ n ih =>
      intro ρ v0 v1 v2 v3 v4 v5 H locs ls hf hl hR hS
      rw [fX3_cheapestChange_23] at hf
      refine lv_iload hx hb dX3_cheapestChange_23 (lv_at hl 5 rfl) ?_
      refine lv_bipush (v := 8) hx hb dX3_cheapestChange_25 (by decide) ?_
      refine lv_icmp_ge (tgt := 77) hx hb dX3_cheapestChange_27 (by decide) (fun c1 => ?_) (fun c1 => ?_)
      · replace hf := (if_pos c1).symm.trans hf
        refine lv_aload_n hx hb dX3_cheapestChange_77 rfl (lv_at hl 1 rfl) ?_
        obtain ⟨x2, h2, hf⟩ := Option.bind_eq_some_iff.mp hf
        refine r_gR hx hb hts inX0 hown hK hR rfl 0 (by decide) (hts _ tw_1_36) h2 dX3_cheapestChange_78 ?_
        refine lv_iload hx hb dX3_cheapestChange_81 (lv_at hl 4 rfl) ?_
        refine lv_aload_n hx hb dX3_cheapestChange_83 rfl (lv_at hl 0 rfl) ?_
        obtain ⟨x3, h3, hf⟩ := Option.bind_eq_some_iff.mp hf
        refine r_gR hx hb hts inX0 hown hK hR rfl 0 (by decide) (hts _ tw_1_36) h3 dX3_cheapestChange_84 ?_
        refine lv_iload hx hb dX3_cheapestChange_87 (lv_at hl 4 rfl) ?_
        obtain ⟨x4, h4, hf⟩ := Option.bind_eq_some_iff.mp hf
        refine r_ldI hx hb hK hR h4 dX3_cheapestChange_89 ?_
        obtain ⟨x5, h5, hf⟩ := Option.bind_eq_some_iff.mp hf
        refine w_stI hx hb hK hR hS h5 dX3_cheapestChange_90 (fun H locs hR hS => ?_)
        refine lv_iinc (v := (v4 + 1)) (lv' := [(4, .int (v4 + 1)), (0, .ref v0), (1, .ref v1), (2, .int v2), (3, .int v3), (5, .int v5)]) hx hb dX3_cheapestChange_91 hl (k := 4) rfl rfl (by decide) rfl (fun ls hl => ?_)
        refine lv_goto (tgt := 11) hx hb dX3_cheapestChange_94 (by decide) ?_
        exact hk11 x5 v0 v1 v2 v3 (v4 + 1) H locs ls hf (lv_sub hl [1, 2, 3, 4, 0] rfl) hR hS
      · replace hf := (if_neg c1).symm.trans hf
        refine lv_aload_n hx hb dX3_cheapestChange_30 rfl (lv_at hl 1 rfl) ?_
        obtain ⟨x6, h6, hf⟩ := Option.bind_eq_some_iff.mp hf
        refine r_gR hx hb hts inX0 hown hK hR rfl 0 (by decide) (hts _ tw_1_36) h6 dX3_cheapestChange_31 ?_
        refine lv_iload hx hb dX3_cheapestChange_34 (lv_at hl 4 rfl) ?_
        refine lv_iload hx hb dX3_cheapestChange_36 (lv_at hl 5 rfl) ?_
        obtain ⟨x7, h7, hf⟩ := Option.bind_eq_some_iff.mp hf
        refine w_stI hx hb hK hR hS h7 dX3_cheapestChange_38 (fun H locs hR hS => ?_)
        refine lv_aload_n hx hb dX3_cheapestChange_39 rfl (lv_at hl 1 rfl) ?_
        obtain ⟨x8, h8, hf⟩ := Option.bind_eq_some_iff.mp hf
        obtain ⟨x9, h9, hf⟩ := Option.bind_eq_some_iff.mp hf
        refine r_callV (As := []) (rest := []) (st1 := [.int x9]) ⟨hx, hb, hml, hown, hts⟩ (kX0_openDues l G x7 v1 _ h9) (cu_V hts tw_2_5 tw_3_116 tw_2_3 tw_2_4 tw_1_2 hdX0_openDues rfl rfl ⟨Nat.le_of_ble_eq_true rfl, Nat.le_of_ble_eq_true rfl⟩) hK hR rfl h8 rfl hl.1 rfl (Nat.le_of_ble_eq_true rfl) dX3_cheapestChange_40 ⟨Nat.zero_le _, Nat.zero_le _⟩ rfl ?_
        refine lv_istore (lv' := [(6, .int x9), (0, .ref v0), (1, .ref v1), (2, .int v2), (3, .int v3), (4, .int v4), (5, .int v5)]) hx hb dX3_cheapestChange_43 hl (by decide) rfl (fun ls hl => ?_)
        refine lv_iload hx hb dX3_cheapestChange_45 (lv_at hl 0 rfl) ?_
        refine lv_iload_n hx hb dX3_cheapestChange_47 rfl (lv_at hl 4 rfl) ?_
        refine lv_icmp_ge (tgt := 71) hx hb dX3_cheapestChange_48 (by decide) (fun c10 => ?_) (fun c10 => ?_)
        · replace hf := (if_pos c10).symm.trans hf
          exact J71 _ hk11 _ ih x7 v0 v1 v2 v3 v4 v5 H locs ls hf (lv_sub hl [1, 2, 3, 4, 5, 6] rfl) hR hS
        · replace hf := (if_neg c10).symm.trans hf
          refine lv_aload_n hx hb dX3_cheapestChange_51 rfl (lv_at hl 1 rfl) ?_
          refine lv_aload_n hx hb dX3_cheapestChange_52 rfl (lv_at hl 2 rfl) ?_
          obtain ⟨x11, h11, hf⟩ := Option.bind_eq_some_iff.mp hf
          refine r_callS (As := [.ref v0, .ref v1]) (rest := []) (st1 := [.int x11]) ⟨hx, hb, hml, hown, hts⟩ (kX3_lacksMore l G x7 v0 v1 _ h11) (cu_S hts tw_3_119 tw_3_117 tw_3_118 tw_1_14 hdX3_lacksMore rfl rfl ⟨Nat.le_of_ble_eq_true rfl, Nat.le_of_ble_eq_true rfl⟩) hK hR rfl hl.1 rfl (Nat.le_of_ble_eq_true rfl) dX3_cheapestChange_53 ⟨Nat.zero_le _, Nat.zero_le _⟩ rfl ?_
          refine lv_if_ne (tgt := 71) hx hb dX3_cheapestChange_56 (by decide) (fun c12 => ?_) (fun c12 => ?_)
          · replace hf := (if_neg c12).symm.trans hf
            exact J71 _ hk11 _ ih x7 v0 v1 v2 v3 v4 v5 H locs ls hf (lv_sub hl [1, 2, 3, 4, 5, 6] rfl) hR hS
          · replace hf := (if_pos c12).symm.trans hf
            refine lv_bipush (v := 10) hx hb dX3_cheapestChange_59 (by decide) ?_
            refine lv_iload hx hb dX3_cheapestChange_61 (lv_at hl 5 rfl) ?_
            refine lv_imul hx hb dX3_cheapestChange_63 ?_
            refine lv_iload hx hb dX3_cheapestChange_64 (lv_at hl 6 rfl) ?_
            refine lv_iadd hx hb dX3_cheapestChange_66 ?_
            refine lv_istore_n (lv' := [(2, .int (((10 : Int32) * v4) + v5)), (6, .int x9), (0, .ref v0), (1, .ref v1), (3, .int v3), (4, .int v4), (5, .int v5)]) hx hb dX3_cheapestChange_67 rfl hl (by decide) rfl (fun ls hl => ?_)
            refine lv_iload hx hb dX3_cheapestChange_68 (lv_at hl 1 rfl) ?_
            refine lv_istore_n (lv' := [(3, .int x9), (2, .int (((10 : Int32) * v4) + v5)), (6, .int x9), (0, .ref v0), (1, .ref v1), (4, .int v4), (5, .int v5)]) hx hb dX3_cheapestChange_70 rfl hl (by decide) rfl (fun ls hl => ?_)
            exact J71 _ hk11 _ ih x7 v0 v1 (((10 : Int32) * v4) + v5) x9 v4 v5 H locs ls hf (lv_sub hl [3, 4, 1, 0, 5, 6] rfl) hR hS
  have L11 : ∀ (n : Nat) (ρ : Rho) (v0 : Nat) (v1 : Nat) (v2 : Int32) (v3 : Int32) (v4 : Int32) (H : Heap) (locs : List Loc) (ls : Array Slot), fX3_cheapestChange_11 n ρ v0 v1 v2 v3 v4 = some r → lv_has ls 7 [(0, .ref v0), (1, .ref v1), (2, .int v2), (3, .int v3), (4, .int v4)] → RW G ρ H → WS ρ0 s.heap ρ H locs → W p l e rX3_cheapestChange s m args below meth c H locs 0 0 Q (F0 m 11 ls []) := by
    intro n
    induction n with
    | zero =>
      intro ρ v0 v1 v2 v3 v4 H locs ls hf
      rw [fX3_cheapestChange_11] at hf
      cases hf
    | succ n ih =>
      intro ρ v0 v1 v2 v3 v4 H locs ls hf hl hR hS
      rw [fX3_cheapestChange_11] at hf
      refine lv_iload hx hb dX3_cheapestChange_11 (lv_at hl 4 rfl) ?_
      refine lv_aload_n hx hb dX3_cheapestChange_13 rfl (lv_at hl 0 rfl) ?_
      obtain ⟨x13, h13, hf⟩ := Option.bind_eq_some_iff.mp hf
      refine r_gI hx hb hts inX0 hown hK hR rfl 5 (by decide) (hts _ tw_1_50) h13 dX3_cheapestChange_14 ?_
      refine lv_icmp_ge (tgt := 97) hx hb dX3_cheapestChange_17 (by decide) (fun c14 => ?_) (fun c14 => ?_)
      · replace hf := (if_pos c14).symm.trans hf
        refine lv_iload_n hx hb dX3_cheapestChange_97 rfl (lv_at hl 2 rfl) ?_
        exact hret _ _ _ _ _ _ dX3_cheapestChange_98 hR hS hf
      · replace hf := (if_neg c14).symm.trans hf
        refine lv_iconst (v := 0) hx hb dX3_cheapestChange_20 (by decide) ?_
        refine lv_istore (lv' := [(5, .int 0), (0, .ref v0), (1, .ref v1), (2, .int v2), (3, .int v3), (4, .int v4)]) hx hb dX3_cheapestChange_21 hl (by decide) rfl (fun ls hl => ?_)
        exact L23 _ ih FU ρ v0 v1 v2 v3 v4 0 H locs ls hf (lv_sub hl [1, 2, 3, 4, 5, 0] rfl) hR hS
  unfold fX3_cheapestChange at hf
  refine lv_bipush (v := (-4)) hx hb dX3_cheapestChange_0 (by decide) ?_
  refine lv_istore_n (lv' := [(2, .int (-4)), (0, .ref v0), (1, .ref v1)]) hx hb dX3_cheapestChange_2 rfl hl (by decide) rfl (fun ls hl => ?_)
  refine lv_aload_n hx hb dX3_cheapestChange_3 rfl (lv_at hl 1 rfl) ?_
  obtain ⟨x15, h15, hf⟩ := Option.bind_eq_some_iff.mp hf
  obtain ⟨x16, h16, hf⟩ := Option.bind_eq_some_iff.mp hf
  refine r_callV (As := []) (rest := []) (st1 := [.int x16]) ⟨hx, hb, hml, hown, hts⟩ (kX0_openDues l G ρ v0 _ h16) (cu_V hts tw_2_5 tw_3_116 tw_2_3 tw_2_4 tw_1_2 hdX0_openDues rfl rfl ⟨Nat.le_of_ble_eq_true rfl, Nat.le_of_ble_eq_true rfl⟩) hK hR rfl h15 rfl hl.1 rfl (Nat.le_of_ble_eq_true rfl) dX3_cheapestChange_4 ⟨Nat.zero_le _, Nat.zero_le _⟩ rfl ?_
  refine lv_istore_n (lv' := [(3, .int x16), (2, .int (-4)), (0, .ref v0), (1, .ref v1)]) hx hb dX3_cheapestChange_7 rfl hl (by decide) rfl (fun ls hl => ?_)
  refine lv_iconst (v := 0) hx hb dX3_cheapestChange_8 (by decide) ?_
  refine lv_istore (lv' := [(4, .int 0), (3, .int x16), (2, .int (-4)), (0, .ref v0), (1, .ref v1)]) hx hb dX3_cheapestChange_9 hl (by decide) rfl (fun ls hl => ?_)
  exact L11 FU ρ v0 v1 (-4) x16 0 H locs ls hf (lv_sub hl [3, 4, 2, 1, 0] rfl) hR hS
/-! BrickedUpAsBlind.Ledger.forgedPlaceFrom(LBrickedUpAsBlind$House;LBrickedUpAsBlind$Shelf;I)I -/
def fX3_forgedPlaceFrom_2 (ρ : Rho) : Nat → Nat → Nat → Int32 → Int32 → Option Int32
  | 0, _, _, _, _ => none
  | n + 1, v0, v1, v2, v3 =>
    (gI ρ 1 v1 4).bind fun x1 =>
    if x1 ≤ v3 then (some (-4))
    else ((gR ρ 1 v1 5).bind fun x3 =>
    (ldI ρ x3 v3).bind fun x4 =>
    (ckO ρ 0 v0).bind fun x5 =>
    (fX0_movingAt ρ v0 ((v2 + v3) - (v2 + v3) / 24 * 24)).bind fun x6 =>
    if x4 = x6 then (fX3_forgedPlaceFrom_2 ρ n v0 v1 v2 (v3 + 1))
    else (some v3))
def fX3_forgedPlaceFrom (ρ : Rho) (v0 : Nat) (v1 : Nat) (v2 : Int32) : Option Int32 :=
    fX3_forgedPlaceFrom_2 ρ FU v0 v1 v2 0
abbrev rX3_forgedPlaceFrom : Room := { frames := 3, cells := 0, slots := 0, locals := 68 }
theorem hdX3_forgedPlaceFrom : hdP yX3_forgedPlaceFrom 3 := by unfold hdP; decide +kernel
set_option maxHeartbeats 4000000 in
set_option maxRecDepth 100000 in
theorem kX3_forgedPlaceFrom (l : Launch) (G : GD) (ρ : Rho) (v0 : Nat) (v1 : Nat) (v2 : Int32) (r : Int32) (hf : fX3_forgedPlaceFrom ρ v0 v1 v2 = some r) : RM l G yX3_forgedPlaceFrom (Cond.code yX3_forgedPlaceFrom cX3_forgedPlaceFrom 4 (some .int) :: LW) rX3_forgedPlaceFrom ρ [.ref v0, .ref v1, .int v2] (some (.int r)) := by
  refine RM.ofI (own := RX3) (by decide) rfl (Nat.le_of_ble_eq_true rfl) ?_
  intro p e s m args below meth c H locs Q hx hb hml hown hts hK hR hret ls hl
  replace hl : lv_has ls 4 [(0, .ref v0), (1, .ref v1), (2, .int v2)] := hl
  have L2 : ∀ (n : Nat) (v0 : Nat) (v1 : Nat) (v2 : Int32) (v3 : Int32) (ls : Array Slot), fX3_forgedPlaceFrom_2 ρ n v0 v1 v2 v3 = some r → lv_has ls 4 [(0, .ref v0), (1, .ref v1), (2, .int v2), (3, .int v3)] → W p l e rX3_forgedPlaceFrom s m args below meth c H locs 0 0 Q (F0 m 2 ls []) := by
    intro n
    induction n with
    | zero =>
      intro v0 v1 v2 v3 ls hf
      rw [fX3_forgedPlaceFrom_2] at hf
      cases hf
    | succ n ih =>
      intro v0 v1 v2 v3 ls hf hl
      rw [fX3_forgedPlaceFrom_2] at hf
      refine lv_iload_n hx hb dX3_forgedPlaceFrom_2 rfl (lv_at hl 3 rfl) ?_
      refine lv_aload_n hx hb dX3_forgedPlaceFrom_3 rfl (lv_at hl 1 rfl) ?_
      obtain ⟨x1, h1, hf⟩ := Option.bind_eq_some_iff.mp hf
      refine r_gI hx hb hts inX6 hown hK hR rfl 4 (by decide) (hts _ tw_1_111) h1 dX3_forgedPlaceFrom_4 ?_
      refine lv_icmp_ge (tgt := 37) hx hb dX3_forgedPlaceFrom_7 (by decide) (fun c2 => ?_) (fun c2 => ?_)
      · replace hf := (if_pos c2).symm.trans hf
        refine lv_bipush (v := (-4)) hx hb dX3_forgedPlaceFrom_37 (by decide) ?_
        exact hret _ _ _ dX3_forgedPlaceFrom_39 hf
      · replace hf := (if_neg c2).symm.trans hf
        refine lv_aload_n hx hb dX3_forgedPlaceFrom_10 rfl (lv_at hl 1 rfl) ?_
        obtain ⟨x3, h3, hf⟩ := Option.bind_eq_some_iff.mp hf
        refine r_gR hx hb hts inX6 hown hK hR rfl 5 (by decide) (hts _ tw_1_116) h3 dX3_forgedPlaceFrom_11 ?_
        refine lv_iload_n hx hb dX3_forgedPlaceFrom_14 rfl (lv_at hl 3 rfl) ?_
        obtain ⟨x4, h4, hf⟩ := Option.bind_eq_some_iff.mp hf
        refine r_ldI hx hb hK hR h4 dX3_forgedPlaceFrom_15 ?_
        refine lv_aload_n hx hb dX3_forgedPlaceFrom_16 rfl (lv_at hl 0 rfl) ?_
        refine lv_iload_n hx hb dX3_forgedPlaceFrom_17 rfl (lv_at hl 2 rfl) ?_
        refine lv_iload_n hx hb dX3_forgedPlaceFrom_18 rfl (lv_at hl 3 rfl) ?_
        refine lv_iadd hx hb dX3_forgedPlaceFrom_19 ?_
        refine lv_bipush (v := 24) hx hb dX3_forgedPlaceFrom_20 (by decide) ?_
        refine lv_irem hx hb dX3_forgedPlaceFrom_22 (by decide) ?_
        obtain ⟨x5, h5, hf⟩ := Option.bind_eq_some_iff.mp hf
        obtain ⟨x6, h6, hf⟩ := Option.bind_eq_some_iff.mp hf
        refine r_callV (As := [.int ((v2 + v3) - (v2 + v3) / 24 * 24)]) (rest := [.int x4]) (st1 := [.int x6, .int x4]) ⟨hx, hb, hml, hown, hts⟩ (kX0_movingAt l G ρ v0 ((v2 + v3) - (v2 + v3) / 24 * 24) _ h6) (cu_V hts tw_2_237 tw_3_131 tw_2_235 tw_2_236 tw_1_2 hdX0_movingAt rfl rfl ⟨Nat.le_of_ble_eq_true rfl, Nat.le_of_ble_eq_true rfl⟩) hK hR rfl h5 rfl hl.1 rfl (Nat.le_of_ble_eq_true rfl) dX3_forgedPlaceFrom_23 ⟨Nat.zero_le _, Nat.zero_le _⟩ rfl ?_
        refine lv_icmp_eq (tgt := 31) hx hb dX3_forgedPlaceFrom_26 (by decide) (fun c7 => ?_) (fun c7 => ?_)
        · replace hf := (if_pos c7).symm.trans hf
          refine lv_iinc (v := (v3 + 1)) (lv' := [(3, .int (v3 + 1)), (0, .ref v0), (1, .ref v1), (2, .int v2)]) hx hb dX3_forgedPlaceFrom_31 hl (k := 3) rfl rfl (by decide) rfl (fun ls hl => ?_)
          refine lv_goto (tgt := 2) hx hb dX3_forgedPlaceFrom_34 (by decide) ?_
          exact ih v0 v1 v2 (v3 + 1) ls hf (lv_sub hl [1, 2, 3, 0] rfl)
        · replace hf := (if_neg c7).symm.trans hf
          refine lv_iload_n hx hb dX3_forgedPlaceFrom_29 rfl (lv_at hl 3 rfl) ?_
          exact hret _ _ _ dX3_forgedPlaceFrom_30 hf
  unfold fX3_forgedPlaceFrom at hf
  refine lv_iconst (v := 0) hx hb dX3_forgedPlaceFrom_0 (by decide) ?_
  refine lv_istore_n (lv' := [(3, .int 0), (0, .ref v0), (1, .ref v1), (2, .int v2)]) hx hb dX3_forgedPlaceFrom_1 rfl hl (by decide) rfl (fun ls hl => ?_)
  exact L2 FU v0 v1 v2 0 ls hf (lv_sub hl [1, 2, 3, 0] rfl)
/-! BrickedUpAsBlind.Ledger.forgedPlace(LBrickedUpAsBlind$House;LBrickedUpAsBlind$Shelf;)I -/
def fX3_forgedPlace_4 (ρ : Rho) : Nat → Nat → Nat → Int32 → Int32 → Option Int32
  | 0, _, _, _, _ => none
  | n + 1, v0, v1, v2, v3 =>
    if (24 : Int32) ≤ v3 then (some v2)
    else ((fX3_forgedPlaceFrom ρ v0 v1 v3).bind fun x2 =>
    if x2 = (-4) then (some (-4))
    else (fX3_forgedPlace_4 ρ n v0 v1 (if v2 < x2 then x2 else v2) (v3 + 1)))
def fX3_forgedPlace (ρ : Rho) (v0 : Nat) (v1 : Nat) : Option Int32 :=
    fX3_forgedPlace_4 ρ FU v0 v1 0 0
abbrev rX3_forgedPlace : Room := { frames := 4, cells := 0, slots := 0, locals := 91 }
theorem hdX3_forgedPlace : hdP yX3_forgedPlace 2 := by unfold hdP; decide +kernel
set_option maxHeartbeats 4000000 in
set_option maxRecDepth 100000 in
theorem kX3_forgedPlace (l : Launch) (G : GD) (ρ : Rho) (v0 : Nat) (v1 : Nat) (r : Int32) (hf : fX3_forgedPlace ρ v0 v1 = some r) : RM l G yX3_forgedPlace (Cond.code yX3_forgedPlace cX3_forgedPlace 5 (some .int) :: LW) rX3_forgedPlace ρ [.ref v0, .ref v1] (some (.int r)) := by
  refine RM.ofI (own := RX3) (by decide) rfl (Nat.le_of_ble_eq_true rfl) ?_
  intro p e s m args below meth c H locs Q hx hb hml hown hts hK hR hret ls hl
  replace hl : lv_has ls 5 [(0, .ref v0), (1, .ref v1)] := hl
  have L4 : ∀ (n : Nat) (v0 : Nat) (v1 : Nat) (v2 : Int32) (v3 : Int32) (ls : Array Slot), fX3_forgedPlace_4 ρ n v0 v1 v2 v3 = some r → lv_has ls 5 [(0, .ref v0), (1, .ref v1), (2, .int v2), (3, .int v3)] → W p l e rX3_forgedPlace s m args below meth c H locs 0 0 Q (F0 m 4 ls []) := by
    intro n
    induction n with
    | zero =>
      intro v0 v1 v2 v3 ls hf
      rw [fX3_forgedPlace_4] at hf
      cases hf
    | succ n ih =>
      intro v0 v1 v2 v3 ls hf hl
      rw [fX3_forgedPlace_4] at hf
      refine lv_iload_n hx hb dX3_forgedPlace_4 rfl (lv_at hl 3 rfl) ?_
      refine lv_bipush (v := 24) hx hb dX3_forgedPlace_5 (by decide) ?_
      refine lv_icmp_ge (tgt := 41) hx hb dX3_forgedPlace_7 (by decide) (fun c1 => ?_) (fun c1 => ?_)
      · replace hf := (if_pos c1).symm.trans hf
        refine lv_iload_n hx hb dX3_forgedPlace_41 rfl (lv_at hl 2 rfl) ?_
        exact hret _ _ _ dX3_forgedPlace_42 hf
      · replace hf := (if_neg c1).symm.trans hf
        refine lv_aload_n hx hb dX3_forgedPlace_10 rfl (lv_at hl 0 rfl) ?_
        refine lv_aload_n hx hb dX3_forgedPlace_11 rfl (lv_at hl 1 rfl) ?_
        refine lv_iload_n hx hb dX3_forgedPlace_12 rfl (lv_at hl 3 rfl) ?_
        obtain ⟨x2, h2, hf⟩ := Option.bind_eq_some_iff.mp hf
        refine r_callS (As := [.ref v0, .ref v1, .int v3]) (rest := []) (st1 := [.int x2]) ⟨hx, hb, hml, hown, hts⟩ (kX3_forgedPlaceFrom l G ρ v0 v1 v3 _ h2) (cu_S hts tw_3_130 tw_3_128 tw_3_129 tw_1_14 hdX3_forgedPlaceFrom rfl rfl ⟨Nat.le_of_ble_eq_true rfl, Nat.le_of_ble_eq_true rfl⟩) hK hR rfl hl.1 rfl (Nat.le_of_ble_eq_true rfl) dX3_forgedPlace_13 ⟨Nat.zero_le _, Nat.zero_le _⟩ rfl ?_
        refine lv_istore (lv' := [(4, .int x2), (0, .ref v0), (1, .ref v1), (2, .int v2), (3, .int v3)]) hx hb dX3_forgedPlace_16 hl (by decide) rfl (fun ls hl => ?_)
        refine lv_iload hx hb dX3_forgedPlace_18 (lv_at hl 0 rfl) ?_
        refine lv_bipush (v := (-4)) hx hb dX3_forgedPlace_20 (by decide) ?_
        refine lv_icmp_ne (tgt := 28) hx hb dX3_forgedPlace_22 (by decide) (fun c3 => ?_) (fun c3 => ?_)
        · replace hf := (if_neg c3).symm.trans hf
          refine lv_iload_n hx hb dX3_forgedPlace_28 rfl (lv_at hl 3 rfl) ?_
          refine lv_iload hx hb dX3_forgedPlace_29 (lv_at hl 0 rfl) ?_
          refine va_mmax hx hb (hml.trans hl.1.symm) hown (hts _ tw_3_97) (hts _ tw_2_62) (hts _ tw_1_8) (hts _ tw_2_63) (Nat.le_of_ble_eq_true rfl) (Nat.le_of_ble_eq_true rfl) (Nat.zero_le _) (Nat.zero_le _) dX3_forgedPlace_31 ?_
          refine lv_istore_n (lv' := [(2, .int (if v2 < x2 then x2 else v2)), (4, .int x2), (0, .ref v0), (1, .ref v1), (3, .int v3)]) hx hb dX3_forgedPlace_34 rfl hl (by decide) rfl (fun ls hl => ?_)
          refine lv_iinc (v := (v3 + 1)) (lv' := [(3, .int (v3 + 1)), (2, .int (if v2 < x2 then x2 else v2)), (4, .int x2), (0, .ref v0), (1, .ref v1)]) hx hb dX3_forgedPlace_35 hl (k := 4) rfl rfl (by decide) rfl (fun ls hl => ?_)
          refine lv_goto (tgt := 4) hx hb dX3_forgedPlace_38 (by decide) ?_
          exact ih v0 v1 (if v2 < x2 then x2 else v2) (v3 + 1) ls hf (lv_sub hl [3, 4, 1, 0] rfl)
        · replace hf := (if_pos c3).symm.trans hf
          refine lv_bipush (v := (-4)) hx hb dX3_forgedPlace_25 (by decide) ?_
          exact hret _ _ _ dX3_forgedPlace_27 hf
  unfold fX3_forgedPlace at hf
  refine lv_iconst (v := 0) hx hb dX3_forgedPlace_0 (by decide) ?_
  refine lv_istore_n (lv' := [(2, .int 0), (0, .ref v0), (1, .ref v1)]) hx hb dX3_forgedPlace_1 rfl hl (by decide) rfl (fun ls hl => ?_)
  refine lv_iconst (v := 0) hx hb dX3_forgedPlace_2 (by decide) ?_
  refine lv_istore_n (lv' := [(3, .int 0), (2, .int 0), (0, .ref v0), (1, .ref v1)]) hx hb dX3_forgedPlace_3 rfl hl (by decide) rfl (fun ls hl => ?_)
  exact L4 FU v0 v1 0 0 ls hf (lv_sub hl [2, 3, 1, 0] rfl)
/-! BrickedUpAsBlind.Ledger.wrongYear(LBrickedUpAsBlind$House;LBrickedUpAsBlind$Shelf;)I -/
def fX3_wrongYear_40 (ρ : Rho) (k7 : Nat → Nat → Int32 → Int32 → Option Int32) (v0 : Nat) (v1 : Nat) (v2 : Int32) (v3 : Int32) : Option Int32 :=
    (gI ρ 0 v0 7).bind fun x1 =>
    (ckO ρ 0 v0).bind fun x2 =>
    (fX0_owedBehindYear ρ v0 v2 x1).bind fun x3 =>
    k7 v0 v1 x3 (v3 + 1)
def fX3_wrongYear_7 (ρ : Rho) : Nat → Nat → Nat → Int32 → Int32 → Option Int32
  | 0, _, _, _, _ => none
  | n + 1, v0, v1, v2, v3 =>
    (gI ρ 1 v1 4).bind fun x4 =>
    if x4 ≤ v3 then (some (-4))
    else ((gR ρ 1 v1 5).bind fun x6 =>
    (ldI ρ x6 v3).bind fun x7 =>
    (ckO ρ 1 v1).bind fun x8 =>
    (fX6_untold ρ v1).bind fun x9 =>
    if x7 = x9 then (fX3_wrongYear_40 ρ (fX3_wrongYear_7 ρ n) v0 v1 v2 v3)
    else ((gR ρ 1 v1 5).bind fun x11 =>
    (ldI ρ x11 v3).bind fun x12 =>
    if x12 = v2 then (fX3_wrongYear_40 ρ (fX3_wrongYear_7 ρ n) v0 v1 v2 v3)
    else (some v3)))
def fX3_wrongYear (ρ : Rho) (v0 : Nat) (v1 : Nat) : Option Int32 :=
    (gI ρ 0 v0 9).bind fun x14 =>
    fX3_wrongYear_7 ρ FU v0 v1 x14 0
abbrev rX3_wrongYear : Room := { frames := 3, cells := 0, slots := 0, locals := 88 }
theorem hdX3_wrongYear : hdP yX3_wrongYear 2 := by unfold hdP; decide +kernel
set_option maxHeartbeats 4000000 in
set_option maxRecDepth 100000 in
theorem kX3_wrongYear (l : Launch) (G : GD) (ρ : Rho) (v0 : Nat) (v1 : Nat) (r : Int32) (hf : fX3_wrongYear ρ v0 v1 = some r) : RM l G yX3_wrongYear (Cond.code yX3_wrongYear cX3_wrongYear 4 (some .int) :: LW) rX3_wrongYear ρ [.ref v0, .ref v1] (some (.int r)) := by
  refine RM.ofI (own := RX3) (by decide) rfl (Nat.le_of_ble_eq_true rfl) ?_
  intro p e s m args below meth c H locs Q hx hb hml hown hts hK hR hret ls hl
  replace hl : lv_has ls 4 [(0, .ref v0), (1, .ref v1)] := hl
  have J40 : ∀ (k7 : Nat → Nat → Int32 → Int32 → Option Int32) (_ : ∀ (v0 : Nat) (v1 : Nat) (v2 : Int32) (v3 : Int32) (ls : Array Slot), k7 v0 v1 v2 v3 = some r → lv_has ls 4 [(0, .ref v0), (1, .ref v1), (2, .int v2), (3, .int v3)] → W p l e rX3_wrongYear s m args below meth c H locs 0 0 Q (F0 m 7 ls [])), ∀ (v0 : Nat) (v1 : Nat) (v2 : Int32) (v3 : Int32) (ls : Array Slot), fX3_wrongYear_40 ρ k7 v0 v1 v2 v3 = some r → lv_has ls 4 [(0, .ref v0), (1, .ref v1), (2, .int v2), (3, .int v3)] → W p l e rX3_wrongYear s m args below meth c H locs 0 0 Q (F0 m 40 ls []) := by
    intro k7 hk7 v0 v1 v2 v3 ls hf hl
    rw [fX3_wrongYear_40] at hf
    refine lv_aload_n hx hb dX3_wrongYear_40 rfl (lv_at hl 0 rfl) ?_
    refine lv_iload_n hx hb dX3_wrongYear_41 rfl (lv_at hl 2 rfl) ?_
    refine lv_aload_n hx hb dX3_wrongYear_42 rfl (lv_at hl 0 rfl) ?_
    obtain ⟨x1, h1, hf⟩ := Option.bind_eq_some_iff.mp hf
    refine r_gI hx hb hts inX0 hown hK hR rfl 7 (by decide) (hts _ tw_1_59) h1 dX3_wrongYear_43 ?_
    obtain ⟨x2, h2, hf⟩ := Option.bind_eq_some_iff.mp hf
    obtain ⟨x3, h3, hf⟩ := Option.bind_eq_some_iff.mp hf
    refine r_callV (As := [.int v2, .int x1]) (rest := []) (st1 := [.int x3]) ⟨hx, hb, hml, hown, hts⟩ (kX0_owedBehindYear l G ρ v0 v2 x1 _ h3) (cu_V hts tw_2_1 tw_3_96 tw_1_239 tw_2_0 tw_1_2 hdX0_owedBehindYear rfl rfl ⟨Nat.le_of_ble_eq_true rfl, Nat.le_of_ble_eq_true rfl⟩) hK hR rfl h2 rfl hl.1 rfl (Nat.le_of_ble_eq_true rfl) dX3_wrongYear_46 ⟨Nat.zero_le _, Nat.zero_le _⟩ rfl ?_
    refine lv_istore_n (lv' := [(2, .int x3), (0, .ref v0), (1, .ref v1), (3, .int v3)]) hx hb dX3_wrongYear_49 rfl hl (by decide) rfl (fun ls hl => ?_)
    refine lv_iinc (v := (v3 + 1)) (lv' := [(3, .int (v3 + 1)), (2, .int x3), (0, .ref v0), (1, .ref v1)]) hx hb dX3_wrongYear_50 hl (k := 3) rfl rfl (by decide) rfl (fun ls hl => ?_)
    refine lv_goto (tgt := 7) hx hb dX3_wrongYear_53 (by decide) ?_
    exact hk7 v0 v1 x3 (v3 + 1) ls hf (lv_sub hl [2, 3, 1, 0] rfl)
  have L7 : ∀ (n : Nat) (v0 : Nat) (v1 : Nat) (v2 : Int32) (v3 : Int32) (ls : Array Slot), fX3_wrongYear_7 ρ n v0 v1 v2 v3 = some r → lv_has ls 4 [(0, .ref v0), (1, .ref v1), (2, .int v2), (3, .int v3)] → W p l e rX3_wrongYear s m args below meth c H locs 0 0 Q (F0 m 7 ls []) := by
    intro n
    induction n with
    | zero =>
      intro v0 v1 v2 v3 ls hf
      rw [fX3_wrongYear_7] at hf
      cases hf
    | succ n ih =>
      intro v0 v1 v2 v3 ls hf hl
      rw [fX3_wrongYear_7] at hf
      refine lv_iload_n hx hb dX3_wrongYear_7 rfl (lv_at hl 3 rfl) ?_
      refine lv_aload_n hx hb dX3_wrongYear_8 rfl (lv_at hl 1 rfl) ?_
      obtain ⟨x4, h4, hf⟩ := Option.bind_eq_some_iff.mp hf
      refine r_gI hx hb hts inX6 hown hK hR rfl 4 (by decide) (hts _ tw_1_111) h4 dX3_wrongYear_9 ?_
      refine lv_icmp_ge (tgt := 56) hx hb dX3_wrongYear_12 (by decide) (fun c5 => ?_) (fun c5 => ?_)
      · replace hf := (if_pos c5).symm.trans hf
        refine lv_bipush (v := (-4)) hx hb dX3_wrongYear_56 (by decide) ?_
        exact hret _ _ _ dX3_wrongYear_58 hf
      · replace hf := (if_neg c5).symm.trans hf
        refine lv_aload_n hx hb dX3_wrongYear_15 rfl (lv_at hl 1 rfl) ?_
        obtain ⟨x6, h6, hf⟩ := Option.bind_eq_some_iff.mp hf
        refine r_gR hx hb hts inX6 hown hK hR rfl 5 (by decide) (hts _ tw_1_116) h6 dX3_wrongYear_16 ?_
        refine lv_iload_n hx hb dX3_wrongYear_19 rfl (lv_at hl 3 rfl) ?_
        obtain ⟨x7, h7, hf⟩ := Option.bind_eq_some_iff.mp hf
        refine r_ldI hx hb hK hR h7 dX3_wrongYear_20 ?_
        refine lv_aload_n hx hb dX3_wrongYear_21 rfl (lv_at hl 1 rfl) ?_
        obtain ⟨x8, h8, hf⟩ := Option.bind_eq_some_iff.mp hf
        obtain ⟨x9, h9, hf⟩ := Option.bind_eq_some_iff.mp hf
        refine r_callV (As := []) (rest := [.int x7]) (st1 := [.int x9, .int x7]) ⟨hx, hb, hml, hown, hts⟩ (kX6_untold l G ρ v1 _ h9) (cu_V hts tw_3_83 tw_3_139 tw_3_81 tw_3_82 tw_1_3 hdX6_untold rfl rfl ⟨Nat.le_of_ble_eq_true rfl, Nat.le_of_ble_eq_true rfl⟩) hK hR rfl h8 rfl hl.1 rfl (Nat.le_of_ble_eq_true rfl) dX3_wrongYear_22 ⟨Nat.zero_le _, Nat.zero_le _⟩ rfl ?_
        refine lv_icmp_eq (tgt := 40) hx hb dX3_wrongYear_25 (by decide) (fun c10 => ?_) (fun c10 => ?_)
        · replace hf := (if_pos c10).symm.trans hf
          exact J40 _ ih v0 v1 v2 v3 ls hf (lv_sub hl [0, 1, 2, 3] rfl)
        · replace hf := (if_neg c10).symm.trans hf
          refine lv_aload_n hx hb dX3_wrongYear_28 rfl (lv_at hl 1 rfl) ?_
          obtain ⟨x11, h11, hf⟩ := Option.bind_eq_some_iff.mp hf
          refine r_gR hx hb hts inX6 hown hK hR rfl 5 (by decide) (hts _ tw_1_116) h11 dX3_wrongYear_29 ?_
          refine lv_iload_n hx hb dX3_wrongYear_32 rfl (lv_at hl 3 rfl) ?_
          obtain ⟨x12, h12, hf⟩ := Option.bind_eq_some_iff.mp hf
          refine r_ldI hx hb hK hR h12 dX3_wrongYear_33 ?_
          refine lv_iload_n hx hb dX3_wrongYear_34 rfl (lv_at hl 2 rfl) ?_
          refine lv_icmp_eq (tgt := 40) hx hb dX3_wrongYear_35 (by decide) (fun c13 => ?_) (fun c13 => ?_)
          · replace hf := (if_pos c13).symm.trans hf
            exact J40 _ ih v0 v1 v2 v3 ls hf (lv_sub hl [0, 1, 2, 3] rfl)
          · replace hf := (if_neg c13).symm.trans hf
            refine lv_iload_n hx hb dX3_wrongYear_38 rfl (lv_at hl 3 rfl) ?_
            exact hret _ _ _ dX3_wrongYear_39 hf
  unfold fX3_wrongYear at hf
  refine lv_aload_n hx hb dX3_wrongYear_0 rfl (lv_at hl 0 rfl) ?_
  obtain ⟨x14, h14, hf⟩ := Option.bind_eq_some_iff.mp hf
  refine r_gI hx hb hts inX0 hown hK hR rfl 9 (by decide) (hts _ tw_1_66) h14 dX3_wrongYear_1 ?_
  refine lv_istore_n (lv' := [(2, .int x14), (0, .ref v0), (1, .ref v1)]) hx hb dX3_wrongYear_4 rfl hl (by decide) rfl (fun ls hl => ?_)
  refine lv_iconst (v := 0) hx hb dX3_wrongYear_5 (by decide) ?_
  refine lv_istore_n (lv' := [(3, .int 0), (2, .int x14), (0, .ref v0), (1, .ref v1)]) hx hb dX3_wrongYear_6 rfl hl (by decide) rfl (fun ls hl => ?_)
  exact L7 FU v0 v1 x14 0 ls hf (lv_sub hl [2, 3, 1, 0] rfl)
/-! BrickedUpAsBlind.Ledger.drawnYears(LBrickedUpAsBlind$House;III)I -/
def fX3_drawnYears_80 (ρ : Rho) (k12 : Nat → Int32 → Int32 → Int32 → Int32 → Int32 → Int32 → Option Int32) (k27 : Nat → Int32 → Int32 → Int32 → Int32 → Int32 → Int32 → Int32 → Int32 → Option Int32) (v0 : Nat) (v1 : Int32) (v3 : Int32) (v4 : Int32) (v5 : Int32) (v6 : Int32) (v7 : Int32) (v8 : Int32) (v9 : Int32) : Option Int32 :=
    k27 v0 v1 v3 v4 v5 v6 v7 v8 (v9 + 1)
def fX3_drawnYears_27 (ρ : Rho) (k12 : Nat → Int32 → Int32 → Int32 → Int32 → Int32 → Int32 → Option Int32) : Nat → Nat → Int32 → Int32 → Int32 → Int32 → Int32 → Int32 → Int32 → Int32 → Option Int32
  | 0, _, _, _, _, _, _, _, _, _ => none
  | n + 1, v0, v1, v3, v4, v5, v6, v7, v8, v9 =>
    if (10 : Int32) ≤ v9 then ((gI ρ 0 v0 9).bind fun x2 =>
    k12 v0 v1 v3 (v4 + (v8 - x2)) v5 v6 (v7 + 1))
    else ((ckO ρ 0 v0).bind fun x3 =>
    (fX0_owedBehindYear ρ v0 v8 (((((v6 * 1103515245) + 12345) &&& 2147483647) / 65536) - ((((v6 * 1103515245) + 12345) &&& 2147483647) / 65536) / 24 * 24)).bind fun x4 =>
    (ckO ρ 0 v0).bind fun x5 =>
    (fX0_movingAt ρ v0 (((((v6 * 1103515245) + 12345) &&& 2147483647) / 65536) - ((((v6 * 1103515245) + 12345) &&& 2147483647) / 65536) / 24 * 24)).bind fun x6 =>
    if x6 ≤ 0 then (fX3_drawnYears_80 ρ k12 (fX3_drawnYears_27 ρ k12 n) v0 v1 v3 v4 v5 ((v6 * 1103515245) + 12345) v7 x4 v9)
    else (fX3_drawnYears_80 ρ k12 (fX3_drawnYears_27 ρ k12 n) v0 v1 v3 v4 (v5 + 1) ((v6 * 1103515245) + 12345) v7 x4 v9))
def fX3_drawnYears_12 (ρ : Rho) : Nat → Nat → Int32 → Int32 → Int32 → Int32 → Int32 → Int32 → Option Int32
  | 0, _, _, _, _, _, _, _ => none
  | n + 1, v0, v1, v3, v4, v5, v6, v7 =>
    if v1 ≤ v7 then (if v3 = 0 then (some v4)
    else (some v5))
    else ((gI ρ 0 v0 9).bind fun x10 =>
    fX3_drawnYears_27 ρ (fX3_drawnYears_12 ρ n) FU v0 v1 v3 v4 v5 v6 v7 x10 0)
def fX3_drawnYears (ρ : Rho) (v0 : Nat) (v1 : Int32) (v2 : Int32) (v3 : Int32) : Option Int32 :=
    fX3_drawnYears_12 ρ FU v0 v1 v3 0 0 v2 0
abbrev rX3_drawnYears : Room := { frames := 3, cells := 0, slots := 0, locals := 88 }
theorem hdX3_drawnYears : hdP yX3_drawnYears 4 := by unfold hdP; decide +kernel
set_option maxHeartbeats 4000000 in
set_option maxRecDepth 100000 in
theorem kX3_drawnYears (l : Launch) (G : GD) (ρ : Rho) (v0 : Nat) (v1 : Int32) (v2 : Int32) (v3 : Int32) (r : Int32) (hf : fX3_drawnYears ρ v0 v1 v2 v3 = some r) : RM l G yX3_drawnYears (Cond.code yX3_drawnYears cX3_drawnYears 11 (some .int) :: LW) rX3_drawnYears ρ [.ref v0, .int v1, .int v2, .int v3] (some (.int r)) := by
  refine RM.ofI (own := RX3) (by decide) rfl (Nat.le_of_ble_eq_true rfl) ?_
  intro p e s m args below meth c H locs Q hx hb hml hown hts hK hR hret ls hl
  replace hl : lv_has ls 11 [(0, .ref v0), (1, .int v1), (2, .int v2), (3, .int v3)] := hl
  have J80 : ∀ (k12 : Nat → Int32 → Int32 → Int32 → Int32 → Int32 → Int32 → Option Int32) (_ : ∀ (v0 : Nat) (v1 : Int32) (v3 : Int32) (v4 : Int32) (v5 : Int32) (v6 : Int32) (v7 : Int32) (ls : Array Slot), k12 v0 v1 v3 v4 v5 v6 v7 = some r → lv_has ls 11 [(0, .ref v0), (1, .int v1), (3, .int v3), (4, .int v4), (5, .int v5), (6, .int v6), (7, .int v7)] → W p l e rX3_drawnYears s m args below meth c H locs 0 0 Q (F0 m 12 ls [])), ∀ (k27 : Nat → Int32 → Int32 → Int32 → Int32 → Int32 → Int32 → Int32 → Int32 → Option Int32) (_ : ∀ (v0 : Nat) (v1 : Int32) (v3 : Int32) (v4 : Int32) (v5 : Int32) (v6 : Int32) (v7 : Int32) (v8 : Int32) (v9 : Int32) (ls : Array Slot), k27 v0 v1 v3 v4 v5 v6 v7 v8 v9 = some r → lv_has ls 11 [(0, .ref v0), (1, .int v1), (3, .int v3), (4, .int v4), (5, .int v5), (6, .int v6), (7, .int v7), (8, .int v8), (9, .int v9)] → W p l e rX3_drawnYears s m args below meth c H locs 0 0 Q (F0 m 27 ls [])), ∀ (v0 : Nat) (v1 : Int32) (v3 : Int32) (v4 : Int32) (v5 : Int32) (v6 : Int32) (v7 : Int32) (v8 : Int32) (v9 : Int32) (ls : Array Slot), fX3_drawnYears_80 ρ k12 k27 v0 v1 v3 v4 v5 v6 v7 v8 v9 = some r → lv_has ls 11 [(0, .ref v0), (1, .int v1), (3, .int v3), (4, .int v4), (5, .int v5), (6, .int v6), (7, .int v7), (8, .int v8), (9, .int v9)] → W p l e rX3_drawnYears s m args below meth c H locs 0 0 Q (F0 m 80 ls []) := by
    intro k12 hk12 k27 hk27 v0 v1 v3 v4 v5 v6 v7 v8 v9 ls hf hl
    rw [fX3_drawnYears_80] at hf
    refine lv_iinc (v := (v9 + 1)) (lv' := [(9, .int (v9 + 1)), (0, .ref v0), (1, .int v1), (3, .int v3), (4, .int v4), (5, .int v5), (6, .int v6), (7, .int v7), (8, .int v8)]) hx hb dX3_drawnYears_80 hl (k := 8) rfl rfl (by decide) rfl (fun ls hl => ?_)
    refine lv_goto (tgt := 27) hx hb dX3_drawnYears_83 (by decide) ?_
    exact hk27 v0 v1 v3 v4 v5 v6 v7 v8 (v9 + 1) ls hf (lv_sub hl [1, 2, 3, 4, 5, 6, 7, 8, 0] rfl)
  have L27 : ∀ (k12 : Nat → Int32 → Int32 → Int32 → Int32 → Int32 → Int32 → Option Int32) (_ : ∀ (v0 : Nat) (v1 : Int32) (v3 : Int32) (v4 : Int32) (v5 : Int32) (v6 : Int32) (v7 : Int32) (ls : Array Slot), k12 v0 v1 v3 v4 v5 v6 v7 = some r → lv_has ls 11 [(0, .ref v0), (1, .int v1), (3, .int v3), (4, .int v4), (5, .int v5), (6, .int v6), (7, .int v7)] → W p l e rX3_drawnYears s m args below meth c H locs 0 0 Q (F0 m 12 ls [])), ∀ (n : Nat) (v0 : Nat) (v1 : Int32) (v3 : Int32) (v4 : Int32) (v5 : Int32) (v6 : Int32) (v7 : Int32) (v8 : Int32) (v9 : Int32) (ls : Array Slot), fX3_drawnYears_27 ρ k12 n v0 v1 v3 v4 v5 v6 v7 v8 v9 = some r → lv_has ls 11 [(0, .ref v0), (1, .int v1), (3, .int v3), (4, .int v4), (5, .int v5), (6, .int v6), (7, .int v7), (8, .int v8), (9, .int v9)] → W p l e rX3_drawnYears s m args below meth c H locs 0 0 Q (F0 m 27 ls []) := by
    intro k12 hk12 n
    induction n with
    | zero =>
      intro v0 v1 v3 v4 v5 v6 v7 v8 v9 ls hf
      rw [fX3_drawnYears_27] at hf
      cases hf
    | succ n ih =>
      intro v0 v1 v3 v4 v5 v6 v7 v8 v9 ls hf hl
      rw [fX3_drawnYears_27] at hf
      refine lv_iload hx hb dX3_drawnYears_27 (lv_at hl 8 rfl) ?_
      refine lv_bipush (v := 10) hx hb dX3_drawnYears_29 (by decide) ?_
      refine lv_icmp_ge (tgt := 86) hx hb dX3_drawnYears_31 (by decide) (fun c1 => ?_) (fun c1 => ?_)
      · replace hf := (if_pos c1).symm.trans hf
        refine lv_iload hx hb dX3_drawnYears_86 (lv_at hl 3 rfl) ?_
        refine lv_iload hx hb dX3_drawnYears_88 (lv_at hl 7 rfl) ?_
        refine lv_aload_n hx hb dX3_drawnYears_90 rfl (lv_at hl 0 rfl) ?_
        obtain ⟨x2, h2, hf⟩ := Option.bind_eq_some_iff.mp hf
        refine r_gI hx hb hts inX0 hown hK hR rfl 9 (by decide) (hts _ tw_1_66) h2 dX3_drawnYears_91 ?_
        refine lv_isub hx hb dX3_drawnYears_94 ?_
        refine lv_iadd hx hb dX3_drawnYears_95 ?_
        refine lv_istore (lv' := [(4, .int (v4 + (v8 - x2))), (0, .ref v0), (1, .int v1), (3, .int v3), (5, .int v5), (6, .int v6), (7, .int v7), (8, .int v8), (9, .int v9)]) hx hb dX3_drawnYears_96 hl (by decide) rfl (fun ls hl => ?_)
        refine lv_iinc (v := (v7 + 1)) (lv' := [(7, .int (v7 + 1)), (4, .int (v4 + (v8 - x2))), (0, .ref v0), (1, .int v1), (3, .int v3), (5, .int v5), (6, .int v6), (8, .int v8), (9, .int v9)]) hx hb dX3_drawnYears_98 hl (k := 6) rfl rfl (by decide) rfl (fun ls hl => ?_)
        refine lv_goto (tgt := 12) hx hb dX3_drawnYears_101 (by decide) ?_
        exact hk12 v0 v1 v3 (v4 + (v8 - x2)) v5 v6 (v7 + 1) ls hf (lv_sub hl [2, 3, 4, 1, 5, 6, 0] rfl)
      · replace hf := (if_neg c1).symm.trans hf
        refine lv_iload hx hb dX3_drawnYears_34 (lv_at hl 5 rfl) ?_
        refine lv_ldc (v := 1103515245) hx hb hown (hts _ (lw_t3 (List.mem_of_getElem? (i := 147) rfl) rfl)) dX3_drawnYears_36 ?_
        refine lv_imul hx hb dX3_drawnYears_38 ?_
        refine lv_sipush (v := 12345) hx hb dX3_drawnYears_39 (by decide) ?_
        refine lv_iadd hx hb dX3_drawnYears_42 ?_
        refine lv_istore (lv' := [(6, .int ((v6 * 1103515245) + 12345)), (0, .ref v0), (1, .int v1), (3, .int v3), (4, .int v4), (5, .int v5), (7, .int v7), (8, .int v8), (9, .int v9)]) hx hb dX3_drawnYears_43 hl (by decide) rfl (fun ls hl => ?_)
        refine lv_iload hx hb dX3_drawnYears_45 (lv_at hl 0 rfl) ?_
        refine lv_ldc (v := 2147483647) hx hb hown (hts _ (lw_t3 (List.mem_of_getElem? (i := 148) rfl) rfl)) dX3_drawnYears_47 ?_
        refine lv_iand hx hb dX3_drawnYears_49 ?_
        refine lv_ldc (v := 65536) hx hb hown (hts _ (lw_t3 (List.mem_of_getElem? (i := 149) rfl) rfl)) dX3_drawnYears_50 ?_
        refine lv_idiv hx hb dX3_drawnYears_52 (by decide) ?_
        refine lv_bipush (v := 24) hx hb dX3_drawnYears_53 (by decide) ?_
        refine lv_irem hx hb dX3_drawnYears_55 (by decide) ?_
        refine lv_istore (lv' := [(10, .int (((((v6 * 1103515245) + 12345) &&& 2147483647) / 65536) - ((((v6 * 1103515245) + 12345) &&& 2147483647) / 65536) / 24 * 24)), (6, .int ((v6 * 1103515245) + 12345)), (0, .ref v0), (1, .int v1), (3, .int v3), (4, .int v4), (5, .int v5), (7, .int v7), (8, .int v8), (9, .int v9)]) hx hb dX3_drawnYears_56 hl (by decide) rfl (fun ls hl => ?_)
        refine lv_aload_n hx hb dX3_drawnYears_58 rfl (lv_at hl 2 rfl) ?_
        refine lv_iload hx hb dX3_drawnYears_59 (lv_at hl 8 rfl) ?_
        refine lv_iload hx hb dX3_drawnYears_61 (lv_at hl 0 rfl) ?_
        obtain ⟨x3, h3, hf⟩ := Option.bind_eq_some_iff.mp hf
        obtain ⟨x4, h4, hf⟩ := Option.bind_eq_some_iff.mp hf
        refine r_callV (As := [.int v8, .int (((((v6 * 1103515245) + 12345) &&& 2147483647) / 65536) - ((((v6 * 1103515245) + 12345) &&& 2147483647) / 65536) / 24 * 24)]) (rest := []) (st1 := [.int x4]) ⟨hx, hb, hml, hown, hts⟩ (kX0_owedBehindYear l G ρ v0 v8 (((((v6 * 1103515245) + 12345) &&& 2147483647) / 65536) - ((((v6 * 1103515245) + 12345) &&& 2147483647) / 65536) / 24 * 24) _ h4) (cu_V hts tw_2_1 tw_3_96 tw_1_239 tw_2_0 tw_1_2 hdX0_owedBehindYear rfl rfl ⟨Nat.le_of_ble_eq_true rfl, Nat.le_of_ble_eq_true rfl⟩) hK hR rfl h3 rfl hl.1 rfl (Nat.le_of_ble_eq_true rfl) dX3_drawnYears_63 ⟨Nat.zero_le _, Nat.zero_le _⟩ rfl ?_
        refine lv_istore (lv' := [(8, .int x4), (10, .int (((((v6 * 1103515245) + 12345) &&& 2147483647) / 65536) - ((((v6 * 1103515245) + 12345) &&& 2147483647) / 65536) / 24 * 24)), (6, .int ((v6 * 1103515245) + 12345)), (0, .ref v0), (1, .int v1), (3, .int v3), (4, .int v4), (5, .int v5), (7, .int v7), (9, .int v9)]) hx hb dX3_drawnYears_66 hl (by decide) rfl (fun ls hl => ?_)
        refine lv_aload_n hx hb dX3_drawnYears_68 rfl (lv_at hl 3 rfl) ?_
        refine lv_iload hx hb dX3_drawnYears_69 (lv_at hl 1 rfl) ?_
        obtain ⟨x5, h5, hf⟩ := Option.bind_eq_some_iff.mp hf
        obtain ⟨x6, h6, hf⟩ := Option.bind_eq_some_iff.mp hf
        refine r_callV (As := [.int (((((v6 * 1103515245) + 12345) &&& 2147483647) / 65536) - ((((v6 * 1103515245) + 12345) &&& 2147483647) / 65536) / 24 * 24)]) (rest := []) (st1 := [.int x6]) ⟨hx, hb, hml, hown, hts⟩ (kX0_movingAt l G ρ v0 (((((v6 * 1103515245) + 12345) &&& 2147483647) / 65536) - ((((v6 * 1103515245) + 12345) &&& 2147483647) / 65536) / 24 * 24) _ h6) (cu_V hts tw_2_237 tw_3_131 tw_2_235 tw_2_236 tw_1_2 hdX0_movingAt rfl rfl ⟨Nat.le_of_ble_eq_true rfl, Nat.le_of_ble_eq_true rfl⟩) hK hR rfl h5 rfl hl.1 rfl (Nat.le_of_ble_eq_true rfl) dX3_drawnYears_71 ⟨Nat.zero_le _, Nat.zero_le _⟩ rfl ?_
        refine lv_if_le (tgt := 80) hx hb dX3_drawnYears_74 (by decide) (fun c7 => ?_) (fun c7 => ?_)
        · replace hf := (if_pos c7).symm.trans hf
          exact J80 _ hk12 _ ih v0 v1 v3 v4 v5 ((v6 * 1103515245) + 12345) v7 x4 v9 ls hf (lv_sub hl [3, 4, 5, 6, 7, 2, 8, 0, 9] rfl)
        · replace hf := (if_neg c7).symm.trans hf
          refine lv_iinc (v := (v5 + 1)) (lv' := [(5, .int (v5 + 1)), (8, .int x4), (10, .int (((((v6 * 1103515245) + 12345) &&& 2147483647) / 65536) - ((((v6 * 1103515245) + 12345) &&& 2147483647) / 65536) / 24 * 24)), (6, .int ((v6 * 1103515245) + 12345)), (0, .ref v0), (1, .int v1), (3, .int v3), (4, .int v4), (7, .int v7), (9, .int v9)]) hx hb dX3_drawnYears_77 hl (k := 7) rfl rfl (by decide) rfl (fun ls hl => ?_)
          exact J80 _ hk12 _ ih v0 v1 v3 v4 (v5 + 1) ((v6 * 1103515245) + 12345) v7 x4 v9 ls hf (lv_sub hl [4, 5, 6, 7, 0, 3, 8, 1, 9] rfl)
  have L12 : ∀ (n : Nat) (v0 : Nat) (v1 : Int32) (v3 : Int32) (v4 : Int32) (v5 : Int32) (v6 : Int32) (v7 : Int32) (ls : Array Slot), fX3_drawnYears_12 ρ n v0 v1 v3 v4 v5 v6 v7 = some r → lv_has ls 11 [(0, .ref v0), (1, .int v1), (3, .int v3), (4, .int v4), (5, .int v5), (6, .int v6), (7, .int v7)] → W p l e rX3_drawnYears s m args below meth c H locs 0 0 Q (F0 m 12 ls []) := by
    intro n
    induction n with
    | zero =>
      intro v0 v1 v3 v4 v5 v6 v7 ls hf
      rw [fX3_drawnYears_12] at hf
      cases hf
    | succ n ih =>
      intro v0 v1 v3 v4 v5 v6 v7 ls hf hl
      rw [fX3_drawnYears_12] at hf
      refine lv_iload hx hb dX3_drawnYears_12 (lv_at hl 6 rfl) ?_
      refine lv_iload_n hx hb dX3_drawnYears_14 rfl (lv_at hl 1 rfl) ?_
      refine lv_icmp_ge (tgt := 104) hx hb dX3_drawnYears_15 (by decide) (fun c8 => ?_) (fun c8 => ?_)
      · replace hf := (if_pos c8).symm.trans hf
        refine lv_iload_n hx hb dX3_drawnYears_104 rfl (lv_at hl 2 rfl) ?_
        refine lv_if_ne (tgt := 113) hx hb dX3_drawnYears_105 (by decide) (fun c9 => ?_) (fun c9 => ?_)
        · replace hf := (if_neg c9).symm.trans hf
          refine lv_iload hx hb dX3_drawnYears_113 (lv_at hl 4 rfl) ?_
          exact hret _ _ _ dX3_drawnYears_115 hf
        · replace hf := (if_pos c9).symm.trans hf
          refine lv_iload hx hb dX3_drawnYears_108 (lv_at hl 3 rfl) ?_
          refine lv_goto (tgt := 115) hx hb dX3_drawnYears_110 (by decide) ?_
          exact hret _ _ _ dX3_drawnYears_115 hf
      · replace hf := (if_neg c8).symm.trans hf
        refine lv_aload_n hx hb dX3_drawnYears_18 rfl (lv_at hl 0 rfl) ?_
        obtain ⟨x10, h10, hf⟩ := Option.bind_eq_some_iff.mp hf
        refine r_gI hx hb hts inX0 hown hK hR rfl 9 (by decide) (hts _ tw_1_66) h10 dX3_drawnYears_19 ?_
        refine lv_istore (lv' := [(8, .int x10), (0, .ref v0), (1, .int v1), (3, .int v3), (4, .int v4), (5, .int v5), (6, .int v6), (7, .int v7)]) hx hb dX3_drawnYears_22 hl (by decide) rfl (fun ls hl => ?_)
        refine lv_iconst (v := 0) hx hb dX3_drawnYears_24 (by decide) ?_
        refine lv_istore (lv' := [(9, .int 0), (8, .int x10), (0, .ref v0), (1, .int v1), (3, .int v3), (4, .int v4), (5, .int v5), (6, .int v6), (7, .int v7)]) hx hb dX3_drawnYears_25 hl (by decide) rfl (fun ls hl => ?_)
        exact L27 _ ih FU v0 v1 v3 v4 v5 v6 v7 x10 0 ls hf (lv_sub hl [2, 3, 4, 5, 6, 7, 8, 1, 0] rfl)
  unfold fX3_drawnYears at hf
  refine lv_iconst (v := 0) hx hb dX3_drawnYears_0 (by decide) ?_
  refine lv_istore (lv' := [(4, .int 0), (0, .ref v0), (1, .int v1), (2, .int v2), (3, .int v3)]) hx hb dX3_drawnYears_1 hl (by decide) rfl (fun ls hl => ?_)
  refine lv_iconst (v := 0) hx hb dX3_drawnYears_3 (by decide) ?_
  refine lv_istore (lv' := [(5, .int 0), (4, .int 0), (0, .ref v0), (1, .int v1), (2, .int v2), (3, .int v3)]) hx hb dX3_drawnYears_4 hl (by decide) rfl (fun ls hl => ?_)
  refine lv_iload_n hx hb dX3_drawnYears_6 rfl (lv_at hl 4 rfl) ?_
  refine lv_istore (lv' := [(6, .int v2), (5, .int 0), (4, .int 0), (0, .ref v0), (1, .int v1), (2, .int v2), (3, .int v3)]) hx hb dX3_drawnYears_7 hl (by decide) rfl (fun ls hl => ?_)
  refine lv_iconst (v := 0) hx hb dX3_drawnYears_9 (by decide) ?_
  refine lv_istore (lv' := [(7, .int 0), (6, .int v2), (5, .int 0), (4, .int 0), (0, .ref v0), (1, .int v1), (2, .int v2), (3, .int v3)]) hx hb dX3_drawnYears_10 hl (by decide) rfl (fun ls hl => ?_)
  exact L12 FU v0 v1 v3 0 0 v2 0 ls hf (lv_sub hl [4, 5, 7, 3, 2, 1, 0] rfl)
/-! BrickedUpAsBlind.Play.seenAt(LBrickedUpAsBlind$House;II)I -/
def fX5_seenAt_45 (ρ : Rho) (k5 : Nat → Int32 → Int32 → Int32 → Int32 → Option Int32) (v0 : Nat) (v1 : Int32) (v2 : Int32) (v3 : Int32) (v4 : Int32) : Option Int32 :=
    k5 v0 v1 v2 v3 (v4 + 1)
def fX5_seenAt_5 (ρ : Rho) : Nat → Nat → Int32 → Int32 → Int32 → Int32 → Option Int32
  | 0, _, _, _, _, _ => none
  | n + 1, v0, v1, v2, v3, v4 =>
    (gI ρ 0 v0 5).bind fun x1 =>
    if x1 ≤ v4 then (some v3)
    else (if ((v1 >>> (v4 &&& 31)) &&& 1) = 0 then ((ckO ρ 0 v0).bind fun x4 =>
    (fX0_isMoving ρ v0 v4 v2).bind fun x5 =>
    if x5 = 0 then (fX5_seenAt_45 ρ (fX5_seenAt_5 ρ n) v0 v1 v2 v3 v4)
    else ((gR ρ 0 v0 1).bind fun x7 =>
    (ldI ρ x7 v4).bind fun x8 =>
    fX5_seenAt_45 ρ (fX5_seenAt_5 ρ n) v0 v1 v2 (v3 + (x8 + 1)) v4))
    else (fX5_seenAt_45 ρ (fX5_seenAt_5 ρ n) v0 v1 v2 v3 v4))
def fX5_seenAt (ρ : Rho) (v0 : Nat) (v1 : Int32) (v2 : Int32) : Option Int32 :=
    fX5_seenAt_5 ρ FU v0 v1 v2 0 0
abbrev rX5_seenAt : Room := { frames := 2, cells := 0, slots := 0, locals := 45 }
theorem hdX5_seenAt : hdP yX5_seenAt 3 := by unfold hdP; decide +kernel
set_option maxHeartbeats 4000000 in
set_option maxRecDepth 100000 in
theorem kX5_seenAt (l : Launch) (G : GD) (ρ : Rho) (v0 : Nat) (v1 : Int32) (v2 : Int32) (r : Int32) (hf : fX5_seenAt ρ v0 v1 v2 = some r) : RM l G yX5_seenAt (Cond.code yX5_seenAt cX5_seenAt 5 (some .int) :: LW) rX5_seenAt ρ [.ref v0, .int v1, .int v2] (some (.int r)) := by
  refine RM.ofI (own := RX5) (by decide) rfl (Nat.le_of_ble_eq_true rfl) ?_
  intro p e s m args below meth c H locs Q hx hb hml hown hts hK hR hret ls hl
  replace hl : lv_has ls 5 [(0, .ref v0), (1, .int v1), (2, .int v2)] := hl
  have J45 : ∀ (k5 : Nat → Int32 → Int32 → Int32 → Int32 → Option Int32) (_ : ∀ (v0 : Nat) (v1 : Int32) (v2 : Int32) (v3 : Int32) (v4 : Int32) (ls : Array Slot), k5 v0 v1 v2 v3 v4 = some r → lv_has ls 5 [(0, .ref v0), (1, .int v1), (2, .int v2), (3, .int v3), (4, .int v4)] → W p l e rX5_seenAt s m args below meth c H locs 0 0 Q (F0 m 5 ls [])), ∀ (v0 : Nat) (v1 : Int32) (v2 : Int32) (v3 : Int32) (v4 : Int32) (ls : Array Slot), fX5_seenAt_45 ρ k5 v0 v1 v2 v3 v4 = some r → lv_has ls 5 [(0, .ref v0), (1, .int v1), (2, .int v2), (3, .int v3), (4, .int v4)] → W p l e rX5_seenAt s m args below meth c H locs 0 0 Q (F0 m 45 ls []) := by
    intro k5 hk5 v0 v1 v2 v3 v4 ls hf hl
    rw [fX5_seenAt_45] at hf
    refine lv_iinc (v := (v4 + 1)) (lv' := [(4, .int (v4 + 1)), (0, .ref v0), (1, .int v1), (2, .int v2), (3, .int v3)]) hx hb dX5_seenAt_45 hl (k := 4) rfl rfl (by decide) rfl (fun ls hl => ?_)
    refine lv_goto (tgt := 5) hx hb dX5_seenAt_48 (by decide) ?_
    exact hk5 v0 v1 v2 v3 (v4 + 1) ls hf (lv_sub hl [1, 2, 3, 4, 0] rfl)
  have L5 : ∀ (n : Nat) (v0 : Nat) (v1 : Int32) (v2 : Int32) (v3 : Int32) (v4 : Int32) (ls : Array Slot), fX5_seenAt_5 ρ n v0 v1 v2 v3 v4 = some r → lv_has ls 5 [(0, .ref v0), (1, .int v1), (2, .int v2), (3, .int v3), (4, .int v4)] → W p l e rX5_seenAt s m args below meth c H locs 0 0 Q (F0 m 5 ls []) := by
    intro n
    induction n with
    | zero =>
      intro v0 v1 v2 v3 v4 ls hf
      rw [fX5_seenAt_5] at hf
      cases hf
    | succ n ih =>
      intro v0 v1 v2 v3 v4 ls hf hl
      rw [fX5_seenAt_5] at hf
      refine lv_iload hx hb dX5_seenAt_5 (lv_at hl 4 rfl) ?_
      refine lv_aload_n hx hb dX5_seenAt_7 rfl (lv_at hl 0 rfl) ?_
      obtain ⟨x1, h1, hf⟩ := Option.bind_eq_some_iff.mp hf
      refine r_gI hx hb hts inX0 hown hK hR rfl 5 (by decide) (hts _ tw_1_51) h1 dX5_seenAt_8 ?_
      refine lv_icmp_ge (tgt := 51) hx hb dX5_seenAt_11 (by decide) (fun c2 => ?_) (fun c2 => ?_)
      · replace hf := (if_pos c2).symm.trans hf
        refine lv_iload_n hx hb dX5_seenAt_51 rfl (lv_at hl 3 rfl) ?_
        exact hret _ _ _ dX5_seenAt_52 hf
      · replace hf := (if_neg c2).symm.trans hf
        refine lv_iload_n hx hb dX5_seenAt_14 rfl (lv_at hl 1 rfl) ?_
        refine lv_iload hx hb dX5_seenAt_15 (lv_at hl 4 rfl) ?_
        refine lv_ishr hx hb dX5_seenAt_17 ?_
        refine lv_iconst (v := 1) hx hb dX5_seenAt_18 (by decide) ?_
        refine lv_iand hx hb dX5_seenAt_19 ?_
        refine lv_if_ne (tgt := 45) hx hb dX5_seenAt_20 (by decide) (fun c3 => ?_) (fun c3 => ?_)
        · replace hf := (if_neg c3).symm.trans hf
          exact J45 _ ih v0 v1 v2 v3 v4 ls hf (lv_sub hl [0, 1, 2, 3, 4] rfl)
        · replace hf := (if_pos c3).symm.trans hf
          refine lv_aload_n hx hb dX5_seenAt_23 rfl (lv_at hl 0 rfl) ?_
          refine lv_iload hx hb dX5_seenAt_24 (lv_at hl 4 rfl) ?_
          refine lv_iload_n hx hb dX5_seenAt_26 rfl (lv_at hl 2 rfl) ?_
          obtain ⟨x4, h4, hf⟩ := Option.bind_eq_some_iff.mp hf
          obtain ⟨x5, h5, hf⟩ := Option.bind_eq_some_iff.mp hf
          refine r_callV (As := [.int v4, .int v2]) (rest := []) (st1 := [.int x5]) ⟨hx, hb, hml, hown, hts⟩ (kX0_isMoving l G ρ v0 v4 v2 _ h5) (cu_V hts tw_2_12 tw_3_36 tw_2_10 tw_2_11 tw_1_2 hdX0_isMoving rfl rfl ⟨Nat.le_of_ble_eq_true rfl, Nat.le_of_ble_eq_true rfl⟩) hK hR rfl h4 rfl hl.1 rfl (Nat.le_of_ble_eq_true rfl) dX5_seenAt_27 ⟨Nat.zero_le _, Nat.zero_le _⟩ rfl ?_
          refine lv_if_eq (tgt := 45) hx hb dX5_seenAt_30 (by decide) (fun c6 => ?_) (fun c6 => ?_)
          · replace hf := (if_pos c6).symm.trans hf
            exact J45 _ ih v0 v1 v2 v3 v4 ls hf (lv_sub hl [0, 1, 2, 3, 4] rfl)
          · replace hf := (if_neg c6).symm.trans hf
            refine lv_iload_n hx hb dX5_seenAt_33 rfl (lv_at hl 3 rfl) ?_
            refine lv_aload_n hx hb dX5_seenAt_34 rfl (lv_at hl 0 rfl) ?_
            obtain ⟨x7, h7, hf⟩ := Option.bind_eq_some_iff.mp hf
            refine r_gR hx hb hts inX0 hown hK hR rfl 1 (by decide) (hts _ tw_1_41) h7 dX5_seenAt_35 ?_
            refine lv_iload hx hb dX5_seenAt_38 (lv_at hl 4 rfl) ?_
            obtain ⟨x8, h8, hf⟩ := Option.bind_eq_some_iff.mp hf
            refine r_ldI hx hb hK hR h8 dX5_seenAt_40 ?_
            refine lv_iconst (v := 1) hx hb dX5_seenAt_41 (by decide) ?_
            refine lv_iadd hx hb dX5_seenAt_42 ?_
            refine lv_iadd hx hb dX5_seenAt_43 ?_
            refine lv_istore_n (lv' := [(3, .int (v3 + (x8 + 1))), (0, .ref v0), (1, .int v1), (2, .int v2), (4, .int v4)]) hx hb dX5_seenAt_44 rfl hl (by decide) rfl (fun ls hl => ?_)
            exact J45 _ ih v0 v1 v2 (v3 + (x8 + 1)) v4 ls hf (lv_sub hl [1, 2, 3, 0, 4] rfl)
  unfold fX5_seenAt at hf
  refine lv_iconst (v := 0) hx hb dX5_seenAt_0 (by decide) ?_
  refine lv_istore_n (lv' := [(3, .int 0), (0, .ref v0), (1, .int v1), (2, .int v2)]) hx hb dX5_seenAt_1 rfl hl (by decide) rfl (fun ls hl => ?_)
  refine lv_iconst (v := 0) hx hb dX5_seenAt_2 (by decide) ?_
  refine lv_istore (lv' := [(4, .int 0), (3, .int 0), (0, .ref v0), (1, .int v1), (2, .int v2)]) hx hb dX5_seenAt_3 hl (by decide) rfl (fun ls hl => ?_)
  exact L5 FU v0 v1 v2 0 0 ls hf (lv_sub hl [2, 3, 4, 1, 0] rfl)
/-! BrickedUpAsBlind.Watch.areAllUnlike([II)Z -/
def fX8_areAllUnlike_41 (ρ : Rho) (k2 : Nat → Int32 → Int32 → Option Int32) (k10 : Nat → Int32 → Int32 → Int32 → Option Int32) (v0 : Nat) (v1 : Int32) (v2 : Int32) (v3 : Int32) : Option Int32 :=
    k10 v0 v1 v2 (v3 + 1)
def fX8_areAllUnlike_10 (ρ : Rho) (k2 : Nat → Int32 → Int32 → Option Int32) : Nat → Nat → Int32 → Int32 → Int32 → Option Int32
  | 0, _, _, _, _ => none
  | n + 1, v0, v1, v2, v3 =>
    if v2 ≤ v3 then (k2 v0 v1 (v2 + 1))
    else ((ldI ρ v0 v3).bind fun x2 =>
    if x2 < 0 then (fX8_areAllUnlike_41 ρ k2 (fX8_areAllUnlike_10 ρ k2 n) v0 v1 v2 v3)
    else ((ldI ρ v0 v2).bind fun x4 =>
    if x4 < 0 then (fX8_areAllUnlike_41 ρ k2 (fX8_areAllUnlike_10 ρ k2 n) v0 v1 v2 v3)
    else ((ldI ρ v0 v3).bind fun x6 =>
    (ldI ρ v0 v2).bind fun x7 =>
    if ((x6 ^^^ x7) &&& v1) = 0 then (nb 0)
    else (fX8_areAllUnlike_41 ρ k2 (fX8_areAllUnlike_10 ρ k2 n) v0 v1 v2 v3))))
def fX8_areAllUnlike_2 (ρ : Rho) : Nat → Nat → Int32 → Int32 → Option Int32
  | 0, _, _, _ => none
  | n + 1, v0, v1, v2 =>
    (lenI ρ v0).bind fun x9 =>
    if x9 ≤ v2 then (nb 1)
    else (fX8_areAllUnlike_10 ρ (fX8_areAllUnlike_2 ρ n) FU v0 v1 v2 0)
def fX8_areAllUnlike (ρ : Rho) (v0 : Nat) (v1 : Int32) : Option Int32 :=
    fX8_areAllUnlike_2 ρ FU v0 v1 1
abbrev rX8_areAllUnlike : Room := { frames := 0, cells := 0, slots := 0, locals := 0 }
theorem hdX8_areAllUnlike : hdP yX8_areAllUnlike 2 := by unfold hdP; decide +kernel
set_option maxHeartbeats 4000000 in
set_option maxRecDepth 100000 in
theorem kX8_areAllUnlike (l : Launch) (G : GD) (ρ : Rho) (v0 : Nat) (v1 : Int32) (r : Int32) (hf : fX8_areAllUnlike ρ v0 v1 = some r) : RM l G yX8_areAllUnlike (Cond.code yX8_areAllUnlike cX8_areAllUnlike 4 (some .boolean) :: LW) rX8_areAllUnlike ρ [.ref v0, .int v1] (some (.int r)) := by
  refine RM.ofZ (own := RX8) (by decide) rfl (Nat.le_of_ble_eq_true rfl) ?_
  intro p e s m args below meth c H locs Q hx hb hml hown hts hK hR hret ls hl
  replace hl : lv_has ls 4 [(0, .ref v0), (1, .int v1)] := hl
  have J41 : ∀ (k2 : Nat → Int32 → Int32 → Option Int32) (_ : ∀ (v0 : Nat) (v1 : Int32) (v2 : Int32) (ls : Array Slot), k2 v0 v1 v2 = some r → lv_has ls 4 [(0, .ref v0), (1, .int v1), (2, .int v2)] → W p l e rX8_areAllUnlike s m args below meth c H locs 0 0 Q (F0 m 2 ls [])), ∀ (k10 : Nat → Int32 → Int32 → Int32 → Option Int32) (_ : ∀ (v0 : Nat) (v1 : Int32) (v2 : Int32) (v3 : Int32) (ls : Array Slot), k10 v0 v1 v2 v3 = some r → lv_has ls 4 [(0, .ref v0), (1, .int v1), (2, .int v2), (3, .int v3)] → W p l e rX8_areAllUnlike s m args below meth c H locs 0 0 Q (F0 m 10 ls [])), ∀ (v0 : Nat) (v1 : Int32) (v2 : Int32) (v3 : Int32) (ls : Array Slot), fX8_areAllUnlike_41 ρ k2 k10 v0 v1 v2 v3 = some r → lv_has ls 4 [(0, .ref v0), (1, .int v1), (2, .int v2), (3, .int v3)] → W p l e rX8_areAllUnlike s m args below meth c H locs 0 0 Q (F0 m 41 ls []) := by
    intro k2 hk2 k10 hk10 v0 v1 v2 v3 ls hf hl
    rw [fX8_areAllUnlike_41] at hf
    refine lv_iinc (v := (v3 + 1)) (lv' := [(3, .int (v3 + 1)), (0, .ref v0), (1, .int v1), (2, .int v2)]) hx hb dX8_areAllUnlike_41 hl (k := 3) rfl rfl (by decide) rfl (fun ls hl => ?_)
    refine lv_goto (tgt := 10) hx hb dX8_areAllUnlike_44 (by decide) ?_
    exact hk10 v0 v1 v2 (v3 + 1) ls hf (lv_sub hl [1, 2, 3, 0] rfl)
  have L10 : ∀ (k2 : Nat → Int32 → Int32 → Option Int32) (_ : ∀ (v0 : Nat) (v1 : Int32) (v2 : Int32) (ls : Array Slot), k2 v0 v1 v2 = some r → lv_has ls 4 [(0, .ref v0), (1, .int v1), (2, .int v2)] → W p l e rX8_areAllUnlike s m args below meth c H locs 0 0 Q (F0 m 2 ls [])), ∀ (n : Nat) (v0 : Nat) (v1 : Int32) (v2 : Int32) (v3 : Int32) (ls : Array Slot), fX8_areAllUnlike_10 ρ k2 n v0 v1 v2 v3 = some r → lv_has ls 4 [(0, .ref v0), (1, .int v1), (2, .int v2), (3, .int v3)] → W p l e rX8_areAllUnlike s m args below meth c H locs 0 0 Q (F0 m 10 ls []) := by
    intro k2 hk2 n
    induction n with
    | zero =>
      intro v0 v1 v2 v3 ls hf
      rw [fX8_areAllUnlike_10] at hf
      cases hf
    | succ n ih =>
      intro v0 v1 v2 v3 ls hf hl
      rw [fX8_areAllUnlike_10] at hf
      refine lv_iload_n hx hb dX8_areAllUnlike_10 rfl (lv_at hl 3 rfl) ?_
      refine lv_iload_n hx hb dX8_areAllUnlike_11 rfl (lv_at hl 2 rfl) ?_
      refine lv_icmp_ge (tgt := 47) hx hb dX8_areAllUnlike_12 (by decide) (fun c1 => ?_) (fun c1 => ?_)
      · replace hf := (if_pos c1).symm.trans hf
        refine lv_iinc (v := (v2 + 1)) (lv' := [(2, .int (v2 + 1)), (0, .ref v0), (1, .int v1), (3, .int v3)]) hx hb dX8_areAllUnlike_47 hl (k := 2) rfl rfl (by decide) rfl (fun ls hl => ?_)
        refine lv_goto (tgt := 2) hx hb dX8_areAllUnlike_50 (by decide) ?_
        exact hk2 v0 v1 (v2 + 1) ls hf (lv_sub hl [1, 2, 0] rfl)
      · replace hf := (if_neg c1).symm.trans hf
        refine lv_aload_n hx hb dX8_areAllUnlike_15 rfl (lv_at hl 0 rfl) ?_
        refine lv_iload_n hx hb dX8_areAllUnlike_16 rfl (lv_at hl 3 rfl) ?_
        obtain ⟨x2, h2, hf⟩ := Option.bind_eq_some_iff.mp hf
        refine r_ldI hx hb hK hR h2 dX8_areAllUnlike_17 ?_
        refine lv_if_lt (tgt := 41) hx hb dX8_areAllUnlike_18 (by decide) (fun c3 => ?_) (fun c3 => ?_)
        · replace hf := (if_pos c3).symm.trans hf
          exact J41 _ hk2 _ ih v0 v1 v2 v3 ls hf (lv_sub hl [0, 1, 2, 3] rfl)
        · replace hf := (if_neg c3).symm.trans hf
          refine lv_aload_n hx hb dX8_areAllUnlike_21 rfl (lv_at hl 0 rfl) ?_
          refine lv_iload_n hx hb dX8_areAllUnlike_22 rfl (lv_at hl 2 rfl) ?_
          obtain ⟨x4, h4, hf⟩ := Option.bind_eq_some_iff.mp hf
          refine r_ldI hx hb hK hR h4 dX8_areAllUnlike_23 ?_
          refine lv_if_lt (tgt := 41) hx hb dX8_areAllUnlike_24 (by decide) (fun c5 => ?_) (fun c5 => ?_)
          · replace hf := (if_pos c5).symm.trans hf
            exact J41 _ hk2 _ ih v0 v1 v2 v3 ls hf (lv_sub hl [0, 1, 2, 3] rfl)
          · replace hf := (if_neg c5).symm.trans hf
            refine lv_aload_n hx hb dX8_areAllUnlike_27 rfl (lv_at hl 0 rfl) ?_
            refine lv_iload_n hx hb dX8_areAllUnlike_28 rfl (lv_at hl 3 rfl) ?_
            obtain ⟨x6, h6, hf⟩ := Option.bind_eq_some_iff.mp hf
            refine r_ldI hx hb hK hR h6 dX8_areAllUnlike_29 ?_
            refine lv_aload_n hx hb dX8_areAllUnlike_30 rfl (lv_at hl 0 rfl) ?_
            refine lv_iload_n hx hb dX8_areAllUnlike_31 rfl (lv_at hl 2 rfl) ?_
            obtain ⟨x7, h7, hf⟩ := Option.bind_eq_some_iff.mp hf
            refine r_ldI hx hb hK hR h7 dX8_areAllUnlike_32 ?_
            refine lv_ixor hx hb dX8_areAllUnlike_33 ?_
            refine lv_iload_n hx hb dX8_areAllUnlike_34 rfl (lv_at hl 1 rfl) ?_
            refine lv_iand hx hb dX8_areAllUnlike_35 ?_
            refine lv_if_ne (tgt := 41) hx hb dX8_areAllUnlike_36 (by decide) (fun c8 => ?_) (fun c8 => ?_)
            · replace hf := (if_neg c8).symm.trans hf
              exact J41 _ hk2 _ ih v0 v1 v2 v3 ls hf (lv_sub hl [0, 1, 2, 3] rfl)
            · replace hf := (if_pos c8).symm.trans hf
              refine lv_iconst (v := 0) hx hb dX8_areAllUnlike_39 (by decide) ?_
              exact hret _ _ _ dX8_areAllUnlike_40 hf
  have L2 : ∀ (n : Nat) (v0 : Nat) (v1 : Int32) (v2 : Int32) (ls : Array Slot), fX8_areAllUnlike_2 ρ n v0 v1 v2 = some r → lv_has ls 4 [(0, .ref v0), (1, .int v1), (2, .int v2)] → W p l e rX8_areAllUnlike s m args below meth c H locs 0 0 Q (F0 m 2 ls []) := by
    intro n
    induction n with
    | zero =>
      intro v0 v1 v2 ls hf
      rw [fX8_areAllUnlike_2] at hf
      cases hf
    | succ n ih =>
      intro v0 v1 v2 ls hf hl
      rw [fX8_areAllUnlike_2] at hf
      refine lv_iload_n hx hb dX8_areAllUnlike_2 rfl (lv_at hl 2 rfl) ?_
      refine lv_aload_n hx hb dX8_areAllUnlike_3 rfl (lv_at hl 0 rfl) ?_
      obtain ⟨x9, h9, hf⟩ := Option.bind_eq_some_iff.mp hf
      refine r_lenI hx hb hK hR h9 dX8_areAllUnlike_4 ?_
      refine lv_icmp_ge (tgt := 53) hx hb dX8_areAllUnlike_5 (by decide) (fun c10 => ?_) (fun c10 => ?_)
      · replace hf := (if_pos c10).symm.trans hf
        refine lv_iconst (v := 1) hx hb dX8_areAllUnlike_53 (by decide) ?_
        exact hret _ _ _ dX8_areAllUnlike_54 hf
      · replace hf := (if_neg c10).symm.trans hf
        refine lv_iconst (v := 0) hx hb dX8_areAllUnlike_8 (by decide) ?_
        refine lv_istore_n (lv' := [(3, .int 0), (0, .ref v0), (1, .int v1), (2, .int v2)]) hx hb dX8_areAllUnlike_9 rfl hl (by decide) rfl (fun ls hl => ?_)
        exact L10 _ ih FU v0 v1 v2 0 ls hf (lv_sub hl [1, 2, 3, 0] rfl)
  unfold fX8_areAllUnlike at hf
  refine lv_iconst (v := 1) hx hb dX8_areAllUnlike_0 (by decide) ?_
  refine lv_istore_n (lv' := [(2, .int 1), (0, .ref v0), (1, .int v1)]) hx hb dX8_areAllUnlike_1 rfl hl (by decide) rfl (fun ls hl => ?_)
  exact L2 FU v0 v1 1 ls hf (lv_sub hl [1, 2, 0] rfl)
/-! BrickedUpAsBlind.Watch.leastOfThreeLooks([I)I -/
def fX8_leastOfThreeLooks_17 (ρ : Rho) (k2 : Nat → Int32 → Option Int32) (k10 : Nat → Int32 → Int32 → Option Int32) : Nat → Nat → Int32 → Int32 → Int32 → Option Int32
  | 0, _, _, _, _ => none
  | n + 1, v0, v1, v2, v3 =>
    if v2 ≤ v3 then (k10 v0 v1 (v2 + 1))
    else ((fX8_areAllUnlike ρ v0 ((((1 : Int32) <<< (v1 &&& 31)) ||| ((1 : Int32) <<< (v2 &&& 31))) ||| ((1 : Int32) <<< (v3 &&& 31)))).bind fun x2 =>
    if x2 = 0 then (fX8_leastOfThreeLooks_17 ρ k2 k10 n v0 v1 v2 (v3 + 1))
    else (some ((((1 : Int32) <<< (v1 &&& 31)) ||| ((1 : Int32) <<< (v2 &&& 31))) ||| ((1 : Int32) <<< (v3 &&& 31)))))
def fX8_leastOfThreeLooks_10 (ρ : Rho) (k2 : Nat → Int32 → Option Int32) : Nat → Nat → Int32 → Int32 → Option Int32
  | 0, _, _, _ => none
  | n + 1, v0, v1, v2 =>
    if v1 ≤ v2 then (k2 v0 (v1 + 1))
    else (fX8_leastOfThreeLooks_17 ρ k2 (fX8_leastOfThreeLooks_10 ρ k2 n) FU v0 v1 v2 0)
def fX8_leastOfThreeLooks_2 (ρ : Rho) : Nat → Nat → Int32 → Option Int32
  | 0, _, _ => none
  | n + 1, v0, v1 =>
    if (24 : Int32) ≤ v1 then (some (-4))
    else (fX8_leastOfThreeLooks_10 ρ (fX8_leastOfThreeLooks_2 ρ n) FU v0 v1 1)
def fX8_leastOfThreeLooks (ρ : Rho) (v0 : Nat) : Option Int32 :=
    fX8_leastOfThreeLooks_2 ρ FU v0 2
abbrev rX8_leastOfThreeLooks : Room := { frames := 1, cells := 0, slots := 0, locals := 23 }
theorem hdX8_leastOfThreeLooks : hdP yX8_leastOfThreeLooks 1 := by unfold hdP; decide +kernel
set_option maxHeartbeats 4000000 in
set_option maxRecDepth 100000 in
theorem kX8_leastOfThreeLooks (l : Launch) (G : GD) (ρ : Rho) (v0 : Nat) (r : Int32) (hf : fX8_leastOfThreeLooks ρ v0 = some r) : RM l G yX8_leastOfThreeLooks (Cond.code yX8_leastOfThreeLooks cX8_leastOfThreeLooks 5 (some .int) :: LW) rX8_leastOfThreeLooks ρ [.ref v0] (some (.int r)) := by
  refine RM.ofI (own := RX8) (by decide) rfl (Nat.le_of_ble_eq_true rfl) ?_
  intro p e s m args below meth c H locs Q hx hb hml hown hts hK hR hret ls hl
  replace hl : lv_has ls 5 [(0, .ref v0)] := hl
  have L17 : ∀ (k2 : Nat → Int32 → Option Int32) (_ : ∀ (v0 : Nat) (v1 : Int32) (ls : Array Slot), k2 v0 v1 = some r → lv_has ls 5 [(0, .ref v0), (1, .int v1)] → W p l e rX8_leastOfThreeLooks s m args below meth c H locs 0 0 Q (F0 m 2 ls [])), ∀ (k10 : Nat → Int32 → Int32 → Option Int32) (_ : ∀ (v0 : Nat) (v1 : Int32) (v2 : Int32) (ls : Array Slot), k10 v0 v1 v2 = some r → lv_has ls 5 [(0, .ref v0), (1, .int v1), (2, .int v2)] → W p l e rX8_leastOfThreeLooks s m args below meth c H locs 0 0 Q (F0 m 10 ls [])), ∀ (n : Nat) (v0 : Nat) (v1 : Int32) (v2 : Int32) (v3 : Int32) (ls : Array Slot), fX8_leastOfThreeLooks_17 ρ k2 k10 n v0 v1 v2 v3 = some r → lv_has ls 5 [(0, .ref v0), (1, .int v1), (2, .int v2), (3, .int v3)] → W p l e rX8_leastOfThreeLooks s m args below meth c H locs 0 0 Q (F0 m 17 ls []) := by
    intro k2 hk2 k10 hk10 n
    induction n with
    | zero =>
      intro v0 v1 v2 v3 ls hf
      rw [fX8_leastOfThreeLooks_17] at hf
      cases hf
    | succ n ih =>
      intro v0 v1 v2 v3 ls hf hl
      rw [fX8_leastOfThreeLooks_17] at hf
      refine lv_iload_n hx hb dX8_leastOfThreeLooks_17 rfl (lv_at hl 3 rfl) ?_
      refine lv_iload_n hx hb dX8_leastOfThreeLooks_18 rfl (lv_at hl 2 rfl) ?_
      refine lv_icmp_ge (tgt := 53) hx hb dX8_leastOfThreeLooks_19 (by decide) (fun c1 => ?_) (fun c1 => ?_)
      · replace hf := (if_pos c1).symm.trans hf
        refine lv_iinc (v := (v2 + 1)) (lv' := [(2, .int (v2 + 1)), (0, .ref v0), (1, .int v1), (3, .int v3)]) hx hb dX8_leastOfThreeLooks_53 hl (k := 2) rfl rfl (by decide) rfl (fun ls hl => ?_)
        refine lv_goto (tgt := 10) hx hb dX8_leastOfThreeLooks_56 (by decide) ?_
        exact hk10 v0 v1 (v2 + 1) ls hf (lv_sub hl [1, 2, 0] rfl)
      · replace hf := (if_neg c1).symm.trans hf
        refine lv_iconst (v := 1) hx hb dX8_leastOfThreeLooks_22 (by decide) ?_
        refine lv_iload_n hx hb dX8_leastOfThreeLooks_23 rfl (lv_at hl 1 rfl) ?_
        refine lv_ishl hx hb dX8_leastOfThreeLooks_24 ?_
        refine lv_iconst (v := 1) hx hb dX8_leastOfThreeLooks_25 (by decide) ?_
        refine lv_iload_n hx hb dX8_leastOfThreeLooks_26 rfl (lv_at hl 2 rfl) ?_
        refine lv_ishl hx hb dX8_leastOfThreeLooks_27 ?_
        refine lv_ior hx hb dX8_leastOfThreeLooks_28 ?_
        refine lv_iconst (v := 1) hx hb dX8_leastOfThreeLooks_29 (by decide) ?_
        refine lv_iload_n hx hb dX8_leastOfThreeLooks_30 rfl (lv_at hl 3 rfl) ?_
        refine lv_ishl hx hb dX8_leastOfThreeLooks_31 ?_
        refine lv_ior hx hb dX8_leastOfThreeLooks_32 ?_
        refine lv_istore (lv' := [(4, .int ((((1 : Int32) <<< (v1 &&& 31)) ||| ((1 : Int32) <<< (v2 &&& 31))) ||| ((1 : Int32) <<< (v3 &&& 31)))), (0, .ref v0), (1, .int v1), (2, .int v2), (3, .int v3)]) hx hb dX8_leastOfThreeLooks_33 hl (by decide) rfl (fun ls hl => ?_)
        refine lv_aload_n hx hb dX8_leastOfThreeLooks_35 rfl (lv_at hl 1 rfl) ?_
        refine lv_iload hx hb dX8_leastOfThreeLooks_36 (lv_at hl 0 rfl) ?_
        obtain ⟨x2, h2, hf⟩ := Option.bind_eq_some_iff.mp hf
        refine r_callS (As := [.ref v0, .int ((((1 : Int32) <<< (v1 &&& 31)) ||| ((1 : Int32) <<< (v2 &&& 31))) ||| ((1 : Int32) <<< (v3 &&& 31)))]) (rest := []) (st1 := [.int x2]) ⟨hx, hb, hml, hown, hts⟩ (kX8_areAllUnlike l G ρ v0 ((((1 : Int32) <<< (v1 &&& 31)) ||| ((1 : Int32) <<< (v2 &&& 31))) ||| ((1 : Int32) <<< (v3 &&& 31))) _ h2) (cu_S hts tw_2_223 tw_2_221 tw_2_222 tw_1_12 hdX8_areAllUnlike rfl rfl ⟨Nat.le_of_ble_eq_true rfl, Nat.le_of_ble_eq_true rfl⟩) hK hR rfl hl.1 rfl (Nat.le_of_ble_eq_true rfl) dX8_leastOfThreeLooks_38 ⟨Nat.zero_le _, Nat.zero_le _⟩ rfl ?_
        refine lv_if_eq (tgt := 47) hx hb dX8_leastOfThreeLooks_41 (by decide) (fun c3 => ?_) (fun c3 => ?_)
        · replace hf := (if_pos c3).symm.trans hf
          refine lv_iinc (v := (v3 + 1)) (lv' := [(3, .int (v3 + 1)), (4, .int ((((1 : Int32) <<< (v1 &&& 31)) ||| ((1 : Int32) <<< (v2 &&& 31))) ||| ((1 : Int32) <<< (v3 &&& 31)))), (0, .ref v0), (1, .int v1), (2, .int v2)]) hx hb dX8_leastOfThreeLooks_47 hl (k := 4) rfl rfl (by decide) rfl (fun ls hl => ?_)
          refine lv_goto (tgt := 17) hx hb dX8_leastOfThreeLooks_50 (by decide) ?_
          exact ih v0 v1 v2 (v3 + 1) ls hf (lv_sub hl [2, 3, 4, 0] rfl)
        · replace hf := (if_neg c3).symm.trans hf
          refine lv_iload hx hb dX8_leastOfThreeLooks_44 (lv_at hl 0 rfl) ?_
          exact hret _ _ _ dX8_leastOfThreeLooks_46 hf
  have L10 : ∀ (k2 : Nat → Int32 → Option Int32) (_ : ∀ (v0 : Nat) (v1 : Int32) (ls : Array Slot), k2 v0 v1 = some r → lv_has ls 5 [(0, .ref v0), (1, .int v1)] → W p l e rX8_leastOfThreeLooks s m args below meth c H locs 0 0 Q (F0 m 2 ls [])), ∀ (n : Nat) (v0 : Nat) (v1 : Int32) (v2 : Int32) (ls : Array Slot), fX8_leastOfThreeLooks_10 ρ k2 n v0 v1 v2 = some r → lv_has ls 5 [(0, .ref v0), (1, .int v1), (2, .int v2)] → W p l e rX8_leastOfThreeLooks s m args below meth c H locs 0 0 Q (F0 m 10 ls []) := by
    intro k2 hk2 n
    induction n with
    | zero =>
      intro v0 v1 v2 ls hf
      rw [fX8_leastOfThreeLooks_10] at hf
      cases hf
    | succ n ih =>
      intro v0 v1 v2 ls hf hl
      rw [fX8_leastOfThreeLooks_10] at hf
      refine lv_iload_n hx hb dX8_leastOfThreeLooks_10 rfl (lv_at hl 2 rfl) ?_
      refine lv_iload_n hx hb dX8_leastOfThreeLooks_11 rfl (lv_at hl 1 rfl) ?_
      refine lv_icmp_ge (tgt := 59) hx hb dX8_leastOfThreeLooks_12 (by decide) (fun c4 => ?_) (fun c4 => ?_)
      · replace hf := (if_pos c4).symm.trans hf
        refine lv_iinc (v := (v1 + 1)) (lv' := [(1, .int (v1 + 1)), (0, .ref v0), (2, .int v2)]) hx hb dX8_leastOfThreeLooks_59 hl (k := 1) rfl rfl (by decide) rfl (fun ls hl => ?_)
        refine lv_goto (tgt := 2) hx hb dX8_leastOfThreeLooks_62 (by decide) ?_
        exact hk2 v0 (v1 + 1) ls hf (lv_sub hl [1, 0] rfl)
      · replace hf := (if_neg c4).symm.trans hf
        refine lv_iconst (v := 0) hx hb dX8_leastOfThreeLooks_15 (by decide) ?_
        refine lv_istore_n (lv' := [(3, .int 0), (0, .ref v0), (1, .int v1), (2, .int v2)]) hx hb dX8_leastOfThreeLooks_16 rfl hl (by decide) rfl (fun ls hl => ?_)
        exact L17 _ hk2 _ ih FU v0 v1 v2 0 ls hf (lv_sub hl [1, 2, 3, 0] rfl)
  have L2 : ∀ (n : Nat) (v0 : Nat) (v1 : Int32) (ls : Array Slot), fX8_leastOfThreeLooks_2 ρ n v0 v1 = some r → lv_has ls 5 [(0, .ref v0), (1, .int v1)] → W p l e rX8_leastOfThreeLooks s m args below meth c H locs 0 0 Q (F0 m 2 ls []) := by
    intro n
    induction n with
    | zero =>
      intro v0 v1 ls hf
      rw [fX8_leastOfThreeLooks_2] at hf
      cases hf
    | succ n ih =>
      intro v0 v1 ls hf hl
      rw [fX8_leastOfThreeLooks_2] at hf
      refine lv_iload_n hx hb dX8_leastOfThreeLooks_2 rfl (lv_at hl 1 rfl) ?_
      refine lv_bipush (v := 24) hx hb dX8_leastOfThreeLooks_3 (by decide) ?_
      refine lv_icmp_ge (tgt := 65) hx hb dX8_leastOfThreeLooks_5 (by decide) (fun c5 => ?_) (fun c5 => ?_)
      · replace hf := (if_pos c5).symm.trans hf
        refine lv_bipush (v := (-4)) hx hb dX8_leastOfThreeLooks_65 (by decide) ?_
        exact hret _ _ _ dX8_leastOfThreeLooks_67 hf
      · replace hf := (if_neg c5).symm.trans hf
        refine lv_iconst (v := 1) hx hb dX8_leastOfThreeLooks_8 (by decide) ?_
        refine lv_istore_n (lv' := [(2, .int 1), (0, .ref v0), (1, .int v1)]) hx hb dX8_leastOfThreeLooks_9 rfl hl (by decide) rfl (fun ls hl => ?_)
        exact L10 _ ih FU v0 v1 1 ls hf (lv_sub hl [1, 2, 0] rfl)
  unfold fX8_leastOfThreeLooks at hf
  refine lv_iconst (v := 2) hx hb dX8_leastOfThreeLooks_0 (by decide) ?_
  refine lv_istore_n (lv' := [(1, .int 2), (0, .ref v0)]) hx hb dX8_leastOfThreeLooks_1 rfl hl (by decide) rfl (fun ls hl => ?_)
  exact L2 FU v0 2 ls hf (lv_sub hl [1, 0] rfl)
/-! BrickedUpAsBlind.Watch.movingHoursOf(LBrickedUpAsBlind$House;I)I -/
def fX8_movingHoursOf_25 (ρ : Rho) (k4 : Nat → Int32 → Int32 → Int32 → Option Int32) (v0 : Nat) (v1 : Int32) (v2 : Int32) (v3 : Int32) : Option Int32 :=
    k4 v0 v1 v2 (v3 + 1)
def fX8_movingHoursOf_4 (ρ : Rho) : Nat → Nat → Int32 → Int32 → Int32 → Option Int32
  | 0, _, _, _, _ => none
  | n + 1, v0, v1, v2, v3 =>
    if (24 : Int32) ≤ v3 then (some v2)
    else ((ckO ρ 0 v0).bind fun x2 =>
    (fX0_isMoving ρ v0 v1 v3).bind fun x3 =>
    if x3 = 0 then (fX8_movingHoursOf_25 ρ (fX8_movingHoursOf_4 ρ n) v0 v1 v2 v3)
    else (fX8_movingHoursOf_25 ρ (fX8_movingHoursOf_4 ρ n) v0 v1 (v2 ||| ((1 : Int32) <<< (v3 &&& 31))) v3))
def fX8_movingHoursOf (ρ : Rho) (v0 : Nat) (v1 : Int32) : Option Int32 :=
    fX8_movingHoursOf_4 ρ FU v0 v1 0 0
abbrev rX8_movingHoursOf : Room := { frames := 2, cells := 0, slots := 0, locals := 45 }
theorem hdX8_movingHoursOf : hdP yX8_movingHoursOf 2 := by unfold hdP; decide +kernel
set_option maxHeartbeats 4000000 in
set_option maxRecDepth 100000 in
theorem kX8_movingHoursOf (l : Launch) (G : GD) (ρ : Rho) (v0 : Nat) (v1 : Int32) (r : Int32) (hf : fX8_movingHoursOf ρ v0 v1 = some r) : RM l G yX8_movingHoursOf (Cond.code yX8_movingHoursOf cX8_movingHoursOf 4 (some .int) :: LW) rX8_movingHoursOf ρ [.ref v0, .int v1] (some (.int r)) := by
  refine RM.ofI (own := RX8) (by decide) rfl (Nat.le_of_ble_eq_true rfl) ?_
  intro p e s m args below meth c H locs Q hx hb hml hown hts hK hR hret ls hl
  replace hl : lv_has ls 4 [(0, .ref v0), (1, .int v1)] := hl
  have J25 : ∀ (k4 : Nat → Int32 → Int32 → Int32 → Option Int32) (_ : ∀ (v0 : Nat) (v1 : Int32) (v2 : Int32) (v3 : Int32) (ls : Array Slot), k4 v0 v1 v2 v3 = some r → lv_has ls 4 [(0, .ref v0), (1, .int v1), (2, .int v2), (3, .int v3)] → W p l e rX8_movingHoursOf s m args below meth c H locs 0 0 Q (F0 m 4 ls [])), ∀ (v0 : Nat) (v1 : Int32) (v2 : Int32) (v3 : Int32) (ls : Array Slot), fX8_movingHoursOf_25 ρ k4 v0 v1 v2 v3 = some r → lv_has ls 4 [(0, .ref v0), (1, .int v1), (2, .int v2), (3, .int v3)] → W p l e rX8_movingHoursOf s m args below meth c H locs 0 0 Q (F0 m 25 ls []) := by
    intro k4 hk4 v0 v1 v2 v3 ls hf hl
    rw [fX8_movingHoursOf_25] at hf
    refine lv_iinc (v := (v3 + 1)) (lv' := [(3, .int (v3 + 1)), (0, .ref v0), (1, .int v1), (2, .int v2)]) hx hb dX8_movingHoursOf_25 hl (k := 3) rfl rfl (by decide) rfl (fun ls hl => ?_)
    refine lv_goto (tgt := 4) hx hb dX8_movingHoursOf_28 (by decide) ?_
    exact hk4 v0 v1 v2 (v3 + 1) ls hf (lv_sub hl [1, 2, 3, 0] rfl)
  have L4 : ∀ (n : Nat) (v0 : Nat) (v1 : Int32) (v2 : Int32) (v3 : Int32) (ls : Array Slot), fX8_movingHoursOf_4 ρ n v0 v1 v2 v3 = some r → lv_has ls 4 [(0, .ref v0), (1, .int v1), (2, .int v2), (3, .int v3)] → W p l e rX8_movingHoursOf s m args below meth c H locs 0 0 Q (F0 m 4 ls []) := by
    intro n
    induction n with
    | zero =>
      intro v0 v1 v2 v3 ls hf
      rw [fX8_movingHoursOf_4] at hf
      cases hf
    | succ n ih =>
      intro v0 v1 v2 v3 ls hf hl
      rw [fX8_movingHoursOf_4] at hf
      refine lv_iload_n hx hb dX8_movingHoursOf_4 rfl (lv_at hl 3 rfl) ?_
      refine lv_bipush (v := 24) hx hb dX8_movingHoursOf_5 (by decide) ?_
      refine lv_icmp_ge (tgt := 31) hx hb dX8_movingHoursOf_7 (by decide) (fun c1 => ?_) (fun c1 => ?_)
      · replace hf := (if_pos c1).symm.trans hf
        refine lv_iload_n hx hb dX8_movingHoursOf_31 rfl (lv_at hl 2 rfl) ?_
        exact hret _ _ _ dX8_movingHoursOf_32 hf
      · replace hf := (if_neg c1).symm.trans hf
        refine lv_aload_n hx hb dX8_movingHoursOf_10 rfl (lv_at hl 0 rfl) ?_
        refine lv_iload_n hx hb dX8_movingHoursOf_11 rfl (lv_at hl 1 rfl) ?_
        refine lv_iload_n hx hb dX8_movingHoursOf_12 rfl (lv_at hl 3 rfl) ?_
        obtain ⟨x2, h2, hf⟩ := Option.bind_eq_some_iff.mp hf
        obtain ⟨x3, h3, hf⟩ := Option.bind_eq_some_iff.mp hf
        refine r_callV (As := [.int v1, .int v3]) (rest := []) (st1 := [.int x3]) ⟨hx, hb, hml, hown, hts⟩ (kX0_isMoving l G ρ v0 v1 v3 _ h3) (cu_V hts tw_2_12 tw_2_220 tw_2_10 tw_2_11 tw_1_2 hdX0_isMoving rfl rfl ⟨Nat.le_of_ble_eq_true rfl, Nat.le_of_ble_eq_true rfl⟩) hK hR rfl h2 rfl hl.1 rfl (Nat.le_of_ble_eq_true rfl) dX8_movingHoursOf_13 ⟨Nat.zero_le _, Nat.zero_le _⟩ rfl ?_
        refine lv_if_eq (tgt := 25) hx hb dX8_movingHoursOf_16 (by decide) (fun c4 => ?_) (fun c4 => ?_)
        · replace hf := (if_pos c4).symm.trans hf
          exact J25 _ ih v0 v1 v2 v3 ls hf (lv_sub hl [0, 1, 2, 3] rfl)
        · replace hf := (if_neg c4).symm.trans hf
          refine lv_iload_n hx hb dX8_movingHoursOf_19 rfl (lv_at hl 2 rfl) ?_
          refine lv_iconst (v := 1) hx hb dX8_movingHoursOf_20 (by decide) ?_
          refine lv_iload_n hx hb dX8_movingHoursOf_21 rfl (lv_at hl 3 rfl) ?_
          refine lv_ishl hx hb dX8_movingHoursOf_22 ?_
          refine lv_ior hx hb dX8_movingHoursOf_23 ?_
          refine lv_istore_n (lv' := [(2, .int (v2 ||| ((1 : Int32) <<< (v3 &&& 31)))), (0, .ref v0), (1, .int v1), (3, .int v3)]) hx hb dX8_movingHoursOf_24 rfl hl (by decide) rfl (fun ls hl => ?_)
          exact J25 _ ih v0 v1 (v2 ||| ((1 : Int32) <<< (v3 &&& 31))) v3 ls hf (lv_sub hl [1, 2, 0, 3] rfl)
  unfold fX8_movingHoursOf at hf
  refine lv_iconst (v := 0) hx hb dX8_movingHoursOf_0 (by decide) ?_
  refine lv_istore_n (lv' := [(2, .int 0), (0, .ref v0), (1, .int v1)]) hx hb dX8_movingHoursOf_1 rfl hl (by decide) rfl (fun ls hl => ?_)
  refine lv_iconst (v := 0) hx hb dX8_movingHoursOf_2 (by decide) ?_
  refine lv_istore_n (lv' := [(3, .int 0), (2, .int 0), (0, .ref v0), (1, .int v1)]) hx hb dX8_movingHoursOf_3 rfl hl (by decide) rfl (fun ls hl => ?_)
  exact L4 FU v0 v1 0 0 ls hf (lv_sub hl [2, 3, 1, 0] rfl)
