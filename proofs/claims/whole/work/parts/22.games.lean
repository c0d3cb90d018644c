theorem hdX5_gained : hdP yX5_gained 4 := by unfold hdP; decide +kernel
theorem hdX5_gainedBy : hdP yX5_gainedBy 5 := by unfold hdP; decide +kernel
/-! BrickedUpAsBlind.Play.gained(LBrickedUpAsBlind$House;III)I -/
def FX5_gained_44 (ρ : Rho) (gX5_gainedBy : Rho → Nat → Int32 → Int32 → Int32 → Int32 → Option Int32) (k13 : Nat → Int32 → Int32 → Int32 → Int32 → Int32 → Option Int32) (v0 : Nat) (v1 : Int32) (v2 : Int32) (v3 : Int32) (v4 : Int32) (v5 : Int32) : Option Int32 :=
    k13 v0 v1 v2 v3 v4 (v5 + 1)
def FX5_gained_13 (ρ : Rho) (gX5_gainedBy : Rho → Nat → Int32 → Int32 → Int32 → Int32 → Option Int32) : Nat → Nat → Int32 → Int32 → Int32 → Int32 → Int32 → Option Int32
  | 0, _, _, _, _, _, _ => none
  | n + 1, v0, v1, v2, v3, v4, v5 =>
    if (4 : Int32) ≤ v5 then (some v4)
    else (if ((v1 >>> (v5 &&& 31)) &&& 1) = 0 then ((gX5_gainedBy ρ v0 v1 v2 v3 v5).bind fun x3 =>
    FX5_gained_44 ρ gX5_gainedBy (FX5_gained_13 ρ gX5_gainedBy n) v0 v1 v2 v3 (if v4 < x3 then x3 else v4) v5)
    else (FX5_gained_44 ρ gX5_gainedBy (FX5_gained_13 ρ gX5_gainedBy n) v0 v1 v2 v3 v4 v5))
def FX5_gained (ρ : Rho) (gX5_gainedBy : Rho → Nat → Int32 → Int32 → Int32 → Int32 → Option Int32) (v0 : Nat) (v1 : Int32) (v2 : Int32) (v3 : Int32) : Option Int32 :=
    if (0 : Int32) < v3 then (FX5_gained_13 ρ gX5_gainedBy FU v0 v1 v2 v3 0 0)
    else (some 0)
set_option maxHeartbeats 4000000 in
set_option maxRecDepth 100000 in
theorem kX5_gained_open (l : Launch) (G : GD) (fF lL fB lB : Nat) (hF : 3 ≤ fF) (hL : 69 ≤ lL) (hB : fB + 1 ≤ fF ∧ 8 + (9 + 11) + lB ≤ lL) (gX5_gainedBy : Rho → Nat → Int32 → Int32 → Int32 → Int32 → Option Int32) (hgX5_gainedBy : ∀ (ρ : Rho) (v0 : Nat) (v1 : Int32) (v2 : Int32) (v3 : Int32) (v4 : Int32) (r : Int32), gX5_gainedBy ρ v0 v1 v2 v3 v4 = some r → RM l G yX5_gainedBy (Cond.code yX5_gainedBy cX5_gainedBy 9 (some .int) :: LW) ({ frames := fB, cells := 0, slots := 0, locals := lB } : Room) ρ [.ref v0, .int v1, .int v2, .int v3, .int v4] (some (.int r))) (ρ : Rho) (v0 : Nat) (v1 : Int32) (v2 : Int32) (v3 : Int32) (r : Int32) (hf : FX5_gained ρ gX5_gainedBy v0 v1 v2 v3 = some r) : RM l G yX5_gained (Cond.code yX5_gained cX5_gained 6 (some .int) :: LW) ({ frames := fF, cells := 0, slots := 0, locals := lL } : Room) ρ [.ref v0, .int v1, .int v2, .int v3] (some (.int r)) := by
  refine RM.ofI (own := RX5) (by decide) rfl (Nat.le_of_ble_eq_true rfl) ?_
  intro p e s m args below meth c H locs Q hx hb hml hown hts hK hR hret ls hl
  replace hl : lv_has ls 6 [(0, .ref v0), (1, .int v1), (2, .int v2), (3, .int v3)] := hl
  have J44 : ∀ (k13 : Nat → Int32 → Int32 → Int32 → Int32 → Int32 → Option Int32) (_ : ∀ (v0 : Nat) (v1 : Int32) (v2 : Int32) (v3 : Int32) (v4 : Int32) (v5 : Int32) (ls : Array Slot), k13 v0 v1 v2 v3 v4 v5 = some r → lv_has ls 6 [(0, .ref v0), (1, .int v1), (2, .int v2), (3, .int v3), (4, .int v4), (5, .int v5)] → W p l e ({ frames := fF, cells := 0, slots := 0, locals := lL } : Room) s m args below meth c H locs 0 0 Q (F0 m 13 ls [])), ∀ (v0 : Nat) (v1 : Int32) (v2 : Int32) (v3 : Int32) (v4 : Int32) (v5 : Int32) (ls : Array Slot), FX5_gained_44 ρ gX5_gainedBy k13 v0 v1 v2 v3 v4 v5 = some r → lv_has ls 6 [(0, .ref v0), (1, .int v1), (2, .int v2), (3, .int v3), (4, .int v4), (5, .int v5)] → W p l e ({ frames := fF, cells := 0, slots := 0, locals := lL } : Room) s m args below meth c H locs 0 0 Q (F0 m 44 ls []) := by
    intro k13 hk13 v0 v1 v2 v3 v4 v5 ls hf hl
    rw [FX5_gained_44] at hf
    refine lv_iinc (v := (v5 + 1)) (lv' := [(5, .int (v5 + 1)), (0, .ref v0), (1, .int v1), (2, .int v2), (3, .int v3), (4, .int v4)]) hx hb dX5_gained_44 hl (k := 5) rfl rfl (by decide) rfl (fun ls hl => ?_)
    refine lv_goto (tgt := 13) hx hb dX5_gained_47 (by decide) ?_
    exact hk13 v0 v1 v2 v3 v4 (v5 + 1) ls hf (lv_sub hl [1, 2, 3, 4, 5, 0] rfl)
  have L13 : ∀ (n : Nat) (v0 : Nat) (v1 : Int32) (v2 : Int32) (v3 : Int32) (v4 : Int32) (v5 : Int32) (ls : Array Slot), FX5_gained_13 ρ gX5_gainedBy n v0 v1 v2 v3 v4 v5 = some r → lv_has ls 6 [(0, .ref v0), (1, .int v1), (2, .int v2), (3, .int v3), (4, .int v4), (5, .int v5)] → W p l e ({ frames := fF, cells := 0, slots := 0, locals := lL } : Room) s m args below meth c H locs 0 0 Q (F0 m 13 ls []) := by
    intro n
    induction n with
    | zero =>
      intro v0 v1 v2 v3 v4 v5 ls hf
      rw [FX5_gained_13] at hf
      cases hf
    | succ n ih =>
      intro v0 v1 v2 v3 v4 v5 ls hf hl
      rw [FX5_gained_13] at hf
      refine lv_iload hx hb dX5_gained_13 (lv_at hl 5 rfl) ?_
      refine lv_iconst (v := 4) hx hb dX5_gained_15 (by decide) ?_
      refine lv_icmp_ge (tgt := 50) hx hb dX5_gained_16 (by decide) (fun c1 => ?_) (fun c1 => ?_)
      · replace hf := (if_pos c1).symm.trans hf
        refine lv_iload hx hb dX5_gained_50 (lv_at hl 4 rfl) ?_
        exact hret _ _ _ dX5_gained_52 hf
      · replace hf := (if_neg c1).symm.trans hf
        refine lv_iload_n hx hb dX5_gained_19 rfl (lv_at hl 1 rfl) ?_
        refine lv_iload hx hb dX5_gained_20 (lv_at hl 5 rfl) ?_
        refine lv_ishr hx hb dX5_gained_22 ?_
        refine lv_iconst (v := 1) hx hb dX5_gained_23 (by decide) ?_
        refine lv_iand hx hb dX5_gained_24 ?_
        refine lv_if_ne (tgt := 44) hx hb dX5_gained_25 (by decide) (fun c2 => ?_) (fun c2 => ?_)
        · replace hf := (if_neg c2).symm.trans hf
          exact J44 _ ih v0 v1 v2 v3 v4 v5 ls hf (lv_sub hl [0, 1, 2, 3, 4, 5] rfl)
        · replace hf := (if_pos c2).symm.trans hf
          refine lv_iload hx hb dX5_gained_28 (lv_at hl 4 rfl) ?_
          refine lv_aload_n hx hb dX5_gained_30 rfl (lv_at hl 0 rfl) ?_
          refine lv_iload_n hx hb dX5_gained_31 rfl (lv_at hl 1 rfl) ?_
          refine lv_iload_n hx hb dX5_gained_32 rfl (lv_at hl 2 rfl) ?_
          refine lv_iload_n hx hb dX5_gained_33 rfl (lv_at hl 3 rfl) ?_
          refine lv_iload hx hb dX5_gained_34 (lv_at hl 5 rfl) ?_
          obtain ⟨x3, h3, hf⟩ := Option.bind_eq_some_iff.mp hf
          refine r_callS (As := [.ref v0, .int v1, .int v2, .int v3, .int v5]) (rest := [.int v4]) (st1 := [.int x3, .int v4]) ⟨hx, hb, hml, hown, hts⟩ (hgX5_gainedBy ρ v0 v1 v2 v3 v5 _ h3) (cu_S hts tw_3_32 tw_3_30 tw_3_31 tw_1_13 hdX5_gainedBy rfl rfl hB) hK hR rfl hl.1 rfl (Nat.le_of_ble_eq_true rfl) dX5_gained_36 ⟨Nat.zero_le _, Nat.zero_le _⟩ rfl ?_
          refine va_mmax hx hb (hml.trans hl.1.symm) hown (hts _ tw_3_38) (hts _ tw_2_62) (hts _ tw_1_8) (hts _ tw_2_63) (Nat.le_trans (Nat.le_of_ble_eq_true rfl) hF) (Nat.le_trans (Nat.le_of_ble_eq_true rfl) hL) (Nat.zero_le _) (Nat.zero_le _) dX5_gained_39 ?_
          refine lv_istore (lv' := [(4, .int (if v4 < x3 then x3 else v4)), (0, .ref v0), (1, .int v1), (2, .int v2), (3, .int v3), (5, .int v5)]) hx hb dX5_gained_42 hl (by decide) rfl (fun ls hl => ?_)
          exact J44 _ ih v0 v1 v2 v3 (if v4 < x3 then x3 else v4) v5 ls hf (lv_sub hl [1, 2, 3, 4, 0, 5] rfl)
  unfold FX5_gained at hf
  refine lv_iconst (v := 0) hx hb dX5_gained_0 (by decide) ?_
  refine lv_istore (lv' := [(4, .int 0), (0, .ref v0), (1, .int v1), (2, .int v2), (3, .int v3)]) hx hb dX5_gained_1 hl (by decide) rfl (fun ls hl => ?_)
  refine lv_iload_n hx hb dX5_gained_3 rfl (lv_at hl 4 rfl) ?_
  refine lv_if_gt (tgt := 10) hx hb dX5_gained_4 (by decide) (fun c4 => ?_) (fun c4 => ?_)
  · replace hf := (if_pos c4).symm.trans hf
    refine lv_iconst (v := 0) hx hb dX5_gained_10 (by decide) ?_
    refine lv_istore (lv' := [(5, .int 0), (4, .int 0), (0, .ref v0), (1, .int v1), (2, .int v2), (3, .int v3)]) hx hb dX5_gained_11 hl (by decide) rfl (fun ls hl => ?_)
    exact L13 FU v0 v1 v2 v3 0 0 ls hf (lv_sub hl [2, 3, 4, 5, 1, 0] rfl)
  · replace hf := (if_neg c4).symm.trans hf
    refine lv_iload hx hb dX5_gained_7 (lv_at hl 0 rfl) ?_
    exact hret _ _ _ dX5_gained_9 hf
/-! BrickedUpAsBlind.Play.gainedBy(LBrickedUpAsBlind$House;IIII)I -/
def FX5_gainedBy_83 (ρ : Rho) (gX5_gained : Rho → Nat → Int32 → Int32 → Int32 → Option Int32) (k43 : Nat → Int32 → Int32 → Int32 → Int32 → Int32 → Int32 → Option Int32) (v0 : Nat) (v2 : Int32) (v3 : Int32) (v5 : Int32) (v6 : Int32) (v7 : Int32) (v8 : Int32) : Option Int32 :=
    k43 v0 v2 v3 v5 v6 v7 (v8 + 1)
def FX5_gainedBy_43 (ρ : Rho) (gX5_gained : Rho → Nat → Int32 → Int32 → Int32 → Option Int32) : Nat → Nat → Int32 → Int32 → Int32 → Int32 → Int32 → Int32 → Option Int32
  | 0, _, _, _, _, _, _, _ => none
  | n + 1, v0, v2, v3, v5, v6, v7, v8 =>
    (gI ρ 0 v0 5).bind fun x1 =>
    if x1 ≤ v8 then (some (v5 + v7))
    else (if ((v2 >>> (v8 &&& 31)) &&& 1) = 0 then ((gX5_gained ρ v0 v6 (v2 ||| ((1 : Int32) <<< (v8 &&& 31))) (v3 - 1)).bind fun x4 =>
    FX5_gainedBy_83 ρ gX5_gained (FX5_gainedBy_43 ρ gX5_gained n) v0 v2 v3 v5 v6 (if x4 < v7 then x4 else v7) v8)
    else (FX5_gainedBy_83 ρ gX5_gained (FX5_gainedBy_43 ρ gX5_gained n) v0 v2 v3 v5 v6 v7 v8))
def FX5_gainedBy (ρ : Rho) (gX5_gained : Rho → Nat → Int32 → Int32 → Int32 → Option Int32) (v0 : Nat) (v1 : Int32) (v2 : Int32) (v3 : Int32) (v4 : Int32) : Option Int32 :=
    (fX5_seenAt ρ v0 v2 (v4 * 6)).bind fun x5 =>
    if (1 : Int32) < v3 then ((gX5_gained ρ v0 (v1 ||| ((1 : Int32) <<< (v4 &&& 31))) v2 (v3 - 1)).bind fun x7 =>
    FX5_gainedBy_43 ρ gX5_gained FU v0 v2 v3 x5 (v1 ||| ((1 : Int32) <<< (v4 &&& 31))) x7 0)
    else (some x5)
set_option maxHeartbeats 4000000 in
set_option maxRecDepth 100000 in
theorem kX5_gainedBy_open (l : Launch) (G : GD) (fF lL fB lB : Nat) (hF : 3 ≤ fF) (hL : 69 ≤ lL) (hB : fB + 1 ≤ fF ∧ 8 + (6 + 11) + lB ≤ lL) (gX5_gained : Rho → Nat → Int32 → Int32 → Int32 → Option Int32) (hgX5_gained : ∀ (ρ : Rho) (v0 : Nat) (v1 : Int32) (v2 : Int32) (v3 : Int32) (r : Int32), gX5_gained ρ v0 v1 v2 v3 = some r → RM l G yX5_gained (Cond.code yX5_gained cX5_gained 6 (some .int) :: LW) ({ frames := fB, cells := 0, slots := 0, locals := lB } : Room) ρ [.ref v0, .int v1, .int v2, .int v3] (some (.int r))) (ρ : Rho) (v0 : Nat) (v1 : Int32) (v2 : Int32) (v3 : Int32) (v4 : Int32) (r : Int32) (hf : FX5_gainedBy ρ gX5_gained v0 v1 v2 v3 v4 = some r) : RM l G yX5_gainedBy (Cond.code yX5_gainedBy cX5_gainedBy 9 (some .int) :: LW) ({ frames := fF, cells := 0, slots := 0, locals := lL } : Room) ρ [.ref v0, .int v1, .int v2, .int v3, .int v4] (some (.int r)) := by
  refine RM.ofI (own := RX5) (by decide) rfl (Nat.le_of_ble_eq_true rfl) ?_
  intro p e s m args below meth c H locs Q hx hb hml hown hts hK hR hret ls hl
  replace hl : lv_has ls 9 [(0, .ref v0), (1, .int v1), (2, .int v2), (3, .int v3), (4, .int v4)] := hl
  have J83 : ∀ (k43 : Nat → Int32 → Int32 → Int32 → Int32 → Int32 → Int32 → Option Int32) (_ : ∀ (v0 : Nat) (v2 : Int32) (v3 : Int32) (v5 : Int32) (v6 : Int32) (v7 : Int32) (v8 : Int32) (ls : Array Slot), k43 v0 v2 v3 v5 v6 v7 v8 = some r → lv_has ls 9 [(0, .ref v0), (2, .int v2), (3, .int v3), (5, .int v5), (6, .int v6), (7, .int v7), (8, .int v8)] → W p l e ({ frames := fF, cells := 0, slots := 0, locals := lL } : Room) s m args below meth c H locs 0 0 Q (F0 m 43 ls [])), ∀ (v0 : Nat) (v2 : Int32) (v3 : Int32) (v5 : Int32) (v6 : Int32) (v7 : Int32) (v8 : Int32) (ls : Array Slot), FX5_gainedBy_83 ρ gX5_gained k43 v0 v2 v3 v5 v6 v7 v8 = some r → lv_has ls 9 [(0, .ref v0), (2, .int v2), (3, .int v3), (5, .int v5), (6, .int v6), (7, .int v7), (8, .int v8)] → W p l e ({ frames := fF, cells := 0, slots := 0, locals := lL } : Room) s m args below meth c H locs 0 0 Q (F0 m 83 ls []) := by
    intro k43 hk43 v0 v2 v3 v5 v6 v7 v8 ls hf hl
    rw [FX5_gainedBy_83] at hf
    refine lv_iinc (v := (v8 + 1)) (lv' := [(8, .int (v8 + 1)), (0, .ref v0), (2, .int v2), (3, .int v3), (5, .int v5), (6, .int v6), (7, .int v7)]) hx hb dX5_gainedBy_83 hl (k := 6) rfl rfl (by decide) rfl (fun ls hl => ?_)
    refine lv_goto (tgt := 43) hx hb dX5_gainedBy_86 (by decide) ?_
    exact hk43 v0 v2 v3 v5 v6 v7 (v8 + 1) ls hf (lv_sub hl [1, 2, 3, 4, 5, 6, 0] rfl)
  have L43 : ∀ (n : Nat) (v0 : Nat) (v2 : Int32) (v3 : Int32) (v5 : Int32) (v6 : Int32) (v7 : Int32) (v8 : Int32) (ls : Array Slot), FX5_gainedBy_43 ρ gX5_gained n v0 v2 v3 v5 v6 v7 v8 = some r → lv_has ls 9 [(0, .ref v0), (2, .int v2), (3, .int v3), (5, .int v5), (6, .int v6), (7, .int v7), (8, .int v8)] → W p l e ({ frames := fF, cells := 0, slots := 0, locals := lL } : Room) s m args below meth c H locs 0 0 Q (F0 m 43 ls []) := by
    intro n
    induction n with
    | zero =>
      intro v0 v2 v3 v5 v6 v7 v8 ls hf
      rw [FX5_gainedBy_43] at hf
      cases hf
    | succ n ih =>
      intro v0 v2 v3 v5 v6 v7 v8 ls hf hl
      rw [FX5_gainedBy_43] at hf
      refine lv_iload hx hb dX5_gainedBy_43 (lv_at hl 6 rfl) ?_
      refine lv_aload_n hx hb dX5_gainedBy_45 rfl (lv_at hl 0 rfl) ?_
      obtain ⟨x1, h1, hf⟩ := Option.bind_eq_some_iff.mp hf
      refine r_gI hx hb hts inX0 hown hK hR rfl 5 (by decide) (hts _ tw_1_51) h1 dX5_gainedBy_46 ?_
      refine lv_icmp_ge (tgt := 89) hx hb dX5_gainedBy_49 (by decide) (fun c2 => ?_) (fun c2 => ?_)
      · replace hf := (if_pos c2).symm.trans hf
        refine lv_iload hx hb dX5_gainedBy_89 (lv_at hl 3 rfl) ?_
        refine lv_iload hx hb dX5_gainedBy_91 (lv_at hl 5 rfl) ?_
        refine lv_iadd hx hb dX5_gainedBy_93 ?_
        exact hret _ _ _ dX5_gainedBy_94 hf
      · replace hf := (if_neg c2).symm.trans hf
        refine lv_iload_n hx hb dX5_gainedBy_52 rfl (lv_at hl 1 rfl) ?_
        refine lv_iload hx hb dX5_gainedBy_53 (lv_at hl 6 rfl) ?_
        refine lv_ishr hx hb dX5_gainedBy_55 ?_
        refine lv_iconst (v := 1) hx hb dX5_gainedBy_56 (by decide) ?_
        refine lv_iand hx hb dX5_gainedBy_57 ?_
        refine lv_if_ne (tgt := 83) hx hb dX5_gainedBy_58 (by decide) (fun c3 => ?_) (fun c3 => ?_)
        · replace hf := (if_neg c3).symm.trans hf
          exact J83 _ ih v0 v2 v3 v5 v6 v7 v8 ls hf (lv_sub hl [0, 1, 2, 3, 4, 5, 6] rfl)
        · replace hf := (if_pos c3).symm.trans hf
          refine lv_iload hx hb dX5_gainedBy_61 (lv_at hl 5 rfl) ?_
          refine lv_aload_n hx hb dX5_gainedBy_63 rfl (lv_at hl 0 rfl) ?_
          refine lv_iload hx hb dX5_gainedBy_64 (lv_at hl 4 rfl) ?_
          refine lv_iload_n hx hb dX5_gainedBy_66 rfl (lv_at hl 1 rfl) ?_
          refine lv_iconst (v := 1) hx hb dX5_gainedBy_67 (by decide) ?_
          refine lv_iload hx hb dX5_gainedBy_68 (lv_at hl 6 rfl) ?_
          refine lv_ishl hx hb dX5_gainedBy_70 ?_
          refine lv_ior hx hb dX5_gainedBy_71 ?_
          refine lv_iload_n hx hb dX5_gainedBy_72 rfl (lv_at hl 2 rfl) ?_
          refine lv_iconst (v := 1) hx hb dX5_gainedBy_73 (by decide) ?_
          refine lv_isub hx hb dX5_gainedBy_74 ?_
          obtain ⟨x4, h4, hf⟩ := Option.bind_eq_some_iff.mp hf
          refine r_callS (As := [.ref v0, .int v6, .int (v2 ||| ((1 : Int32) <<< (v8 &&& 31))), .int (v3 - 1)]) (rest := [.int v7]) (st1 := [.int x4, .int v7]) ⟨hx, hb, hml, hown, hts⟩ (hgX5_gained ρ v0 v6 (v2 ||| ((1 : Int32) <<< (v8 &&& 31))) (v3 - 1) _ h4) (cu_S hts tw_3_29 tw_3_27 tw_3_28 tw_1_13 hdX5_gained rfl rfl hB) hK hR rfl hl.1 rfl (Nat.le_of_ble_eq_true rfl) dX5_gainedBy_75 ⟨Nat.zero_le _, Nat.zero_le _⟩ rfl ?_
          refine va_mmin hx hb (hml.trans hl.1.symm) hown (hts _ tw_3_37) (hts _ tw_2_21) (hts _ tw_1_8) (hts _ tw_2_22) (Nat.le_trans (Nat.le_of_ble_eq_true rfl) hF) (Nat.le_trans (Nat.le_of_ble_eq_true rfl) hL) (Nat.zero_le _) (Nat.zero_le _) dX5_gainedBy_78 ?_
          refine lv_istore (lv' := [(7, .int (if x4 < v7 then x4 else v7)), (0, .ref v0), (2, .int v2), (3, .int v3), (5, .int v5), (6, .int v6), (8, .int v8)]) hx hb dX5_gainedBy_81 hl (by decide) rfl (fun ls hl => ?_)
          exact J83 _ ih v0 v2 v3 v5 v6 (if x4 < v7 then x4 else v7) v8 ls hf (lv_sub hl [1, 2, 3, 4, 5, 0, 6] rfl)
  unfold FX5_gainedBy at hf
  refine lv_aload_n hx hb dX5_gainedBy_0 rfl (lv_at hl 0 rfl) ?_
  refine lv_iload_n hx hb dX5_gainedBy_1 rfl (lv_at hl 2 rfl) ?_
  refine lv_iload hx hb dX5_gainedBy_2 (lv_at hl 4 rfl) ?_
  refine lv_bipush (v := 6) hx hb dX5_gainedBy_4 (by decide) ?_
  refine lv_imul hx hb dX5_gainedBy_6 ?_
  obtain ⟨x5, h5, hf⟩ := Option.bind_eq_some_iff.mp hf
  refine r_callS (As := [.ref v0, .int v2, .int (v4 * 6)]) (rest := []) (st1 := [.int x5]) ⟨hx, hb, hml, hown, hts⟩ (kX5_seenAt l G ρ v0 v2 (v4 * 6) _ h5) (cu_S hts tw_3_35 tw_3_33 tw_3_34 tw_1_13 hdX5_seenAt rfl rfl ⟨(Nat.le_trans (Nat.le_of_ble_eq_true rfl) hF), (Nat.le_trans (Nat.le_of_ble_eq_true rfl) hL)⟩) hK hR rfl hl.1 rfl (Nat.le_of_ble_eq_true rfl) dX5_gainedBy_7 ⟨Nat.zero_le _, Nat.zero_le _⟩ rfl ?_
  refine lv_istore (lv' := [(5, .int x5), (0, .ref v0), (1, .int v1), (2, .int v2), (3, .int v3), (4, .int v4)]) hx hb dX5_gainedBy_10 hl (by decide) rfl (fun ls hl => ?_)
  refine lv_iload_n hx hb dX5_gainedBy_12 rfl (lv_at hl 4 rfl) ?_
  refine lv_iconst (v := 1) hx hb dX5_gainedBy_13 (by decide) ?_
  refine lv_icmp_gt (tgt := 20) hx hb dX5_gainedBy_14 (by decide) (fun c6 => ?_) (fun c6 => ?_)
  · replace hf := (if_pos c6).symm.trans hf
    refine lv_iload_n hx hb dX5_gainedBy_20 rfl (lv_at hl 2 rfl) ?_
    refine lv_iconst (v := 1) hx hb dX5_gainedBy_21 (by decide) ?_
    refine lv_iload hx hb dX5_gainedBy_22 (lv_at hl 5 rfl) ?_
    refine lv_ishl hx hb dX5_gainedBy_24 ?_
    refine lv_ior hx hb dX5_gainedBy_25 ?_
    refine lv_istore (lv' := [(6, .int (v1 ||| ((1 : Int32) <<< (v4 &&& 31)))), (5, .int x5), (0, .ref v0), (1, .int v1), (2, .int v2), (3, .int v3), (4, .int v4)]) hx hb dX5_gainedBy_26 hl (by decide) rfl (fun ls hl => ?_)
    refine lv_aload_n hx hb dX5_gainedBy_28 rfl (lv_at hl 2 rfl) ?_
    refine lv_iload hx hb dX5_gainedBy_29 (lv_at hl 0 rfl) ?_
    refine lv_iload_n hx hb dX5_gainedBy_31 rfl (lv_at hl 4 rfl) ?_
    refine lv_iload_n hx hb dX5_gainedBy_32 rfl (lv_at hl 5 rfl) ?_
    refine lv_iconst (v := 1) hx hb dX5_gainedBy_33 (by decide) ?_
    refine lv_isub hx hb dX5_gainedBy_34 ?_
    obtain ⟨x7, h7, hf⟩ := Option.bind_eq_some_iff.mp hf
    refine r_callS (As := [.ref v0, .int (v1 ||| ((1 : Int32) <<< (v4 &&& 31))), .int v2, .int (v3 - 1)]) (rest := []) (st1 := [.int x7]) ⟨hx, hb, hml, hown, hts⟩ (hgX5_gained ρ v0 (v1 ||| ((1 : Int32) <<< (v4 &&& 31))) v2 (v3 - 1) _ h7) (cu_S hts tw_3_29 tw_3_27 tw_3_28 tw_1_13 hdX5_gained rfl rfl hB) hK hR rfl hl.1 rfl (Nat.le_of_ble_eq_true rfl) dX5_gainedBy_35 ⟨Nat.zero_le _, Nat.zero_le _⟩ rfl ?_
    refine lv_istore (lv' := [(7, .int x7), (6, .int (v1 ||| ((1 : Int32) <<< (v4 &&& 31)))), (5, .int x5), (0, .ref v0), (1, .int v1), (2, .int v2), (3, .int v3), (4, .int v4)]) hx hb dX5_gainedBy_38 hl (by decide) rfl (fun ls hl => ?_)
    refine lv_iconst (v := 0) hx hb dX5_gainedBy_40 (by decide) ?_
    refine lv_istore (lv' := [(8, .int 0), (7, .int x7), (6, .int (v1 ||| ((1 : Int32) <<< (v4 &&& 31)))), (5, .int x5), (0, .ref v0), (1, .int v1), (2, .int v2), (3, .int v3), (4, .int v4)]) hx hb dX5_gainedBy_41 hl (by decide) rfl (fun ls hl => ?_)
    exact L43 FU v0 v2 v3 x5 (v1 ||| ((1 : Int32) <<< (v4 &&& 31))) x7 0 ls hf (lv_sub hl [4, 6, 7, 3, 2, 1, 0] rfl)
  · replace hf := (if_neg c6).symm.trans hf
    refine lv_iload hx hb dX5_gainedBy_17 (lv_at hl 0 rfl) ?_
    exact hret _ _ _ dX5_gainedBy_19 hf
def fX5_gained_d : Nat → Rho → Nat → Int32 → Int32 → Int32 → Option Int32
  | 0 => fun _ _ _ _ _ => none
  | d + 1 => fun ρ v0 v1 v2 v3 => FX5_gained ρ (fun ρ w0 w1 w2 w3 w4 => FX5_gainedBy ρ (fX5_gained_d d) w0 w1 w2 w3 w4) v0 v1 v2 v3
set_option maxRecDepth 100000 in
theorem kX5_gained_d (l : Launch) (G : GD) : ∀ (d : Nat) (ρ : Rho) (v0 : Nat) (v1 : Int32) (v2 : Int32) (v3 : Int32) (r : Int32), fX5_gained_d d ρ v0 v1 v2 v3 = some r → RM l G yX5_gained (Cond.code yX5_gained cX5_gained 6 (some .int) :: LW) ({ frames := (3 + 2 * d), cells := 0, slots := 0, locals := (69 + 53 * d) } : Room) ρ [.ref v0, .int v1, .int v2, .int v3] (some (.int r)) := by
  intro d
  induction d with
  | zero =>
    intro ρ v0 v1 v2 v3 r hf
    cases hf
  | succ d ih =>
    intro ρ v0 v1 v2 v3 r hf
    exact kX5_gained_open l G (3 + 2 * (d + 1)) (69 + 53 * (d + 1)) (4 + 2 * d) (94 + 53 * d) (by omega) (by omega) ⟨by omega, by omega⟩ _ (fun ρ v0 v1 v2 v3 v4 r h => kX5_gainedBy_open l G (4 + 2 * d) (94 + 53 * d) (3 + 2 * d) (69 + 53 * d) (by omega) (by omega) ⟨by omega, by omega⟩ (fX5_gained_d d) ih ρ v0 v1 v2 v3 v4 r h) ρ v0 v1 v2 v3 r hf
def fX5_gained (ρ : Rho) (v0 : Nat) (v1 : Int32) (v2 : Int32) (v3 : Int32) : Option Int32 := fX5_gained_d 6 ρ v0 v1 v2 v3
def fX5_gainedBy (ρ : Rho) (v0 : Nat) (v1 : Int32) (v2 : Int32) (v3 : Int32) (v4 : Int32) : Option Int32 := FX5_gainedBy ρ (fX5_gained_d 6) v0 v1 v2 v3 v4
abbrev rX5_gained : Room := { frames := 15, cells := 0, slots := 0, locals := 387 }
abbrev rX5_gainedBy : Room := { frames := 16, cells := 0, slots := 0, locals := 412 }
theorem kX5_gained (l : Launch) (G : GD) (ρ : Rho) (v0 : Nat) (v1 : Int32) (v2 : Int32) (v3 : Int32) (r : Int32) (hf : fX5_gained ρ v0 v1 v2 v3 = some r) : RM l G yX5_gained (Cond.code yX5_gained cX5_gained 6 (some .int) :: LW) ({ frames := 15, cells := 0, slots := 0, locals := 387 } : Room) ρ [.ref v0, .int v1, .int v2, .int v3] (some (.int r)) := kX5_gained_d l G 6 ρ v0 v1 v2 v3 r hf
theorem kX5_gainedBy (l : Launch) (G : GD) (ρ : Rho) (v0 : Nat) (v1 : Int32) (v2 : Int32) (v3 : Int32) (v4 : Int32) (r : Int32) (hf : fX5_gainedBy ρ v0 v1 v2 v3 v4 = some r) : RM l G yX5_gainedBy (Cond.code yX5_gainedBy cX5_gainedBy 9 (some .int) :: LW) ({ frames := 16, cells := 0, slots := 0, locals := 412 } : Room) ρ [.ref v0, .int v1, .int v2, .int v3, .int v4] (some (.int r)) := kX5_gainedBy_open l G 16 412 15 387 (by omega) (by omega) ⟨by omega, by omega⟩ (fX5_gained_d 6) (kX5_gained_d l G 6) ρ v0 v1 v2 v3 v4 r hf
/-! BrickedUpAsBlind.Play.mostDue(LBrickedUpAsBlind$House;I)I -/
def fX5_mostDue (ρ : Rho) (v0 : Nat) (v1 : Int32) : Option Int32 :=
    (gI ρ 0 v0 6).bind fun x1 =>
    (fX5_gained ρ v0 0 x1 v1).bind fun x2 =>
    some x2
abbrev rX5_mostDue : Room := { frames := 16, cells := 0, slots := 0, locals := 412 }
theorem hdX5_mostDue : hdP yX5_mostDue 2 := by unfold hdP; decide +kernel
set_option maxHeartbeats 4000000 in
set_option maxRecDepth 100000 in
theorem kX5_mostDue (l : Launch) (G : GD) (ρ : Rho) (v0 : Nat) (v1 : Int32) (r : Int32) (hf : fX5_mostDue ρ v0 v1 = some r) : RM l G yX5_mostDue (Cond.code yX5_mostDue cX5_mostDue 2 (some .int) :: LW) rX5_mostDue ρ [.ref v0, .int v1] (some (.int r)) := by
  refine RM.ofI (own := RX5) (by decide) rfl (Nat.le_of_ble_eq_true rfl) ?_
  intro p e s m args below meth c H locs Q hx hb hml hown hts hK hR hret ls hl
  replace hl : lv_has ls 2 [(0, .ref v0), (1, .int v1)] := hl
  unfold fX5_mostDue at hf
  refine lv_aload_n hx hb dX5_mostDue_0 rfl (lv_at hl 0 rfl) ?_
  refine lv_iconst (v := 0) hx hb dX5_mostDue_1 (by decide) ?_
  refine lv_aload_n hx hb dX5_mostDue_2 rfl (lv_at hl 0 rfl) ?_
  obtain ⟨x1, h1, hf⟩ := Option.bind_eq_some_iff.mp hf
  refine r_gI hx hb hts inX0 hown hK hR rfl 6 (by decide) (hts _ tw_1_55) h1 dX5_mostDue_3 ?_
  refine lv_iload_n hx hb dX5_mostDue_6 rfl (lv_at hl 1 rfl) ?_
  obtain ⟨x2, h2, hf⟩ := Option.bind_eq_some_iff.mp hf
  refine r_callS (As := [.ref v0, .int 0, .int x1, .int v1]) (rest := []) (st1 := [.int x2]) ⟨hx, hb, hml, hown, hts⟩ (kX5_gained l G ρ v0 0 x1 v1 _ h2) (cu_S hts tw_3_29 tw_3_27 tw_3_28 tw_1_13 hdX5_gained rfl rfl ⟨(Nat.le_of_ble_eq_true rfl), (Nat.le_of_ble_eq_true rfl)⟩) hK hR rfl hl.1 rfl (Nat.le_of_ble_eq_true rfl) dX5_mostDue_7 ⟨Nat.zero_le _, Nat.zero_le _⟩ rfl ?_
  exact hret _ _ _ dX5_mostDue_10 hf
/-! BrickedUpAsBlind.Play.firstHour(LBrickedUpAsBlind$House;I)I -/
def fX5_firstHour_56 (ρ : Rho) (k24 : Nat → Int32 → Int32 → Int32 → Int32 → Option Int32) (v0 : Nat) (v1 : Int32) (v2 : Int32) (v3 : Int32) (v4 : Int32) : Option Int32 :=
    k24 v0 v1 v2 v3 (v4 + 1)
def fX5_firstHour_24 (ρ : Rho) : Nat → Nat → Int32 → Int32 → Int32 → Int32 → Option Int32
  | 0, _, _, _, _, _ => none
  | n + 1, v0, v1, v2, v3, v4 =>
    if (4 : Int32) ≤ v4 then (some (v2 * 6))
    else ((gI ρ 0 v0 6).bind fun x2 =>
    (fX5_gainedBy ρ v0 0 x2 v1 v4).bind fun x3 =>
    if x3 ≤ v3 then (fX5_firstHour_56 ρ (fX5_firstHour_24 ρ n) v0 v1 v2 v3 v4)
    else (fX5_firstHour_56 ρ (fX5_firstHour_24 ρ n) v0 v1 v4 x3 v4))
def fX5_firstHour (ρ : Rho) (v0 : Nat) (v1 : Int32) : Option Int32 :=
    if (0 : Int32) < v1 then ((gI ρ 0 v0 6).bind fun x6 =>
    (fX5_gainedBy ρ v0 0 x6 v1 0).bind fun x7 =>
    fX5_firstHour_24 ρ FU v0 v1 0 x7 1)
    else (some (-4))
abbrev rX5_firstHour : Room := { frames := 17, cells := 0, slots := 0, locals := 440 }
theorem hdX5_firstHour : hdP yX5_firstHour 2 := by unfold hdP; decide +kernel
set_option maxHeartbeats 4000000 in
set_option maxRecDepth 100000 in
theorem kX5_firstHour (l : Launch) (G : GD) (ρ : Rho) (v0 : Nat) (v1 : Int32) (r : Int32) (hf : fX5_firstHour ρ v0 v1 = some r) : RM l G yX5_firstHour (Cond.code yX5_firstHour cX5_firstHour 6 (some .int) :: LW) rX5_firstHour ρ [.ref v0, .int v1] (some (.int r)) := by
  refine RM.ofI (own := RX5) (by decide) rfl (Nat.le_of_ble_eq_true rfl) ?_
  intro p e s m args below meth c H locs Q hx hb hml hown hts hK hR hret ls hl
  replace hl : lv_has ls 6 [(0, .ref v0), (1, .int v1)] := hl
  have J56 : ∀ (k24 : Nat → Int32 → Int32 → Int32 → Int32 → Option Int32) (_ : ∀ (v0 : Nat) (v1 : Int32) (v2 : Int32) (v3 : Int32) (v4 : Int32) (ls : Array Slot), k24 v0 v1 v2 v3 v4 = some r → lv_has ls 6 [(0, .ref v0), (1, .int v1), (2, .int v2), (3, .int v3), (4, .int v4)] → W p l e rX5_firstHour s m args below meth c H locs 0 0 Q (F0 m 24 ls [])), ∀ (v0 : Nat) (v1 : Int32) (v2 : Int32) (v3 : Int32) (v4 : Int32) (ls : Array Slot), fX5_firstHour_56 ρ k24 v0 v1 v2 v3 v4 = some r → lv_has ls 6 [(0, .ref v0), (1, .int v1), (2, .int v2), (3, .int v3), (4, .int v4)] → W p l e rX5_firstHour s m args below meth c H locs 0 0 Q (F0 m 56 ls []) := by
    intro k24 hk24 v0 v1 v2 v3 v4 ls hf hl
    rw [fX5_firstHour_56] at hf
    refine lv_iinc (v := (v4 + 1)) (lv' := [(4, .int (v4 + 1)), (0, .ref v0), (1, .int v1), (2, .int v2), (3, .int v3)]) hx hb dX5_firstHour_56 hl (k := 4) rfl rfl (by decide) rfl (fun ls hl => ?_)
    refine lv_goto (tgt := 24) hx hb dX5_firstHour_59 (by decide) ?_
    exact hk24 v0 v1 v2 v3 (v4 + 1) ls hf (lv_sub hl [1, 2, 3, 4, 0] rfl)
  have L24 : ∀ (n : Nat) (v0 : Nat) (v1 : Int32) (v2 : Int32) (v3 : Int32) (v4 : Int32) (ls : Array Slot), fX5_firstHour_24 ρ n v0 v1 v2 v3 v4 = some r → lv_has ls 6 [(0, .ref v0), (1, .int v1), (2, .int v2), (3, .int v3), (4, .int v4)] → W p l e rX5_firstHour s m args below meth c H locs 0 0 Q (F0 m 24 ls []) := by
    intro n
    induction n with
    | zero =>
      intro v0 v1 v2 v3 v4 ls hf
      rw [fX5_firstHour_24] at hf
      cases hf
    | succ n ih =>
      intro v0 v1 v2 v3 v4 ls hf hl
      rw [fX5_firstHour_24] at hf
      refine lv_iload hx hb dX5_firstHour_24 (lv_at hl 4 rfl) ?_
      refine lv_iconst (v := 4) hx hb dX5_firstHour_26 (by decide) ?_
      refine lv_icmp_ge (tgt := 62) hx hb dX5_firstHour_27 (by decide) (fun c1 => ?_) (fun c1 => ?_)
      · replace hf := (if_pos c1).symm.trans hf
        refine lv_iload_n hx hb dX5_firstHour_62 rfl (lv_at hl 2 rfl) ?_
        refine lv_bipush (v := 6) hx hb dX5_firstHour_63 (by decide) ?_
        refine lv_imul hx hb dX5_firstHour_65 ?_
        exact hret _ _ _ dX5_firstHour_66 hf
      · replace hf := (if_neg c1).symm.trans hf
        refine lv_aload_n hx hb dX5_firstHour_30 rfl (lv_at hl 0 rfl) ?_
        refine lv_iconst (v := 0) hx hb dX5_firstHour_31 (by decide) ?_
        refine lv_aload_n hx hb dX5_firstHour_32 rfl (lv_at hl 0 rfl) ?_
        obtain ⟨x2, h2, hf⟩ := Option.bind_eq_some_iff.mp hf
        refine r_gI hx hb hts inX0 hown hK hR rfl 6 (by decide) (hts _ tw_1_55) h2 dX5_firstHour_33 ?_
        refine lv_iload_n hx hb dX5_firstHour_36 rfl (lv_at hl 1 rfl) ?_
        refine lv_iload hx hb dX5_firstHour_37 (lv_at hl 4 rfl) ?_
        obtain ⟨x3, h3, hf⟩ := Option.bind_eq_some_iff.mp hf
        refine r_callS (As := [.ref v0, .int 0, .int x2, .int v1, .int v4]) (rest := []) (st1 := [.int x3]) ⟨hx, hb, hml, hown, hts⟩ (kX5_gainedBy l G ρ v0 0 x2 v1 v4 _ h3) (cu_S hts tw_3_32 tw_3_30 tw_3_31 tw_1_13 hdX5_gainedBy rfl rfl ⟨(Nat.le_of_ble_eq_true rfl), (Nat.le_of_ble_eq_true rfl)⟩) hK hR rfl hl.1 rfl (Nat.le_of_ble_eq_true rfl) dX5_firstHour_39 ⟨Nat.zero_le _, Nat.zero_le _⟩ rfl ?_
        refine lv_istore (lv' := [(5, .int x3), (0, .ref v0), (1, .int v1), (2, .int v2), (3, .int v3), (4, .int v4)]) hx hb dX5_firstHour_42 hl (by decide) rfl (fun ls hl => ?_)
        refine lv_iload hx hb dX5_firstHour_44 (lv_at hl 0 rfl) ?_
        refine lv_iload_n hx hb dX5_firstHour_46 rfl (lv_at hl 4 rfl) ?_
        refine lv_icmp_le (tgt := 56) hx hb dX5_firstHour_47 (by decide) (fun c4 => ?_) (fun c4 => ?_)
        · replace hf := (if_pos c4).symm.trans hf
          exact J56 _ ih v0 v1 v2 v3 v4 ls hf (lv_sub hl [1, 2, 3, 4, 5] rfl)
        · replace hf := (if_neg c4).symm.trans hf
          refine lv_iload hx hb dX5_firstHour_50 (lv_at hl 5 rfl) ?_
          refine lv_istore_n (lv' := [(2, .int v4), (5, .int x3), (0, .ref v0), (1, .int v1), (3, .int v3), (4, .int v4)]) hx hb dX5_firstHour_52 rfl hl (by decide) rfl (fun ls hl => ?_)
          refine lv_iload hx hb dX5_firstHour_53 (lv_at hl 1 rfl) ?_
          refine lv_istore_n (lv' := [(3, .int x3), (2, .int v4), (5, .int x3), (0, .ref v0), (1, .int v1), (4, .int v4)]) hx hb dX5_firstHour_55 rfl hl (by decide) rfl (fun ls hl => ?_)
          exact J56 _ ih v0 v1 v4 x3 v4 ls hf (lv_sub hl [3, 4, 1, 0, 5] rfl)
  unfold fX5_firstHour at hf
  refine lv_iload_n hx hb dX5_firstHour_0 rfl (lv_at hl 1 rfl) ?_
  refine lv_if_gt (tgt := 7) hx hb dX5_firstHour_1 (by decide) (fun c5 => ?_) (fun c5 => ?_)
  · replace hf := (if_pos c5).symm.trans hf
    refine lv_iconst (v := 0) hx hb dX5_firstHour_7 (by decide) ?_
    refine lv_istore_n (lv' := [(2, .int 0), (0, .ref v0), (1, .int v1)]) hx hb dX5_firstHour_8 rfl hl (by decide) rfl (fun ls hl => ?_)
    refine lv_aload_n hx hb dX5_firstHour_9 rfl (lv_at hl 1 rfl) ?_
    refine lv_iconst (v := 0) hx hb dX5_firstHour_10 (by decide) ?_
    refine lv_aload_n hx hb dX5_firstHour_11 rfl (lv_at hl 1 rfl) ?_
    obtain ⟨x6, h6, hf⟩ := Option.bind_eq_some_iff.mp hf
    refine r_gI hx hb hts inX0 hown hK hR rfl 6 (by decide) (hts _ tw_1_55) h6 dX5_firstHour_12 ?_
    refine lv_iload_n hx hb dX5_firstHour_15 rfl (lv_at hl 2 rfl) ?_
    refine lv_iconst (v := 0) hx hb dX5_firstHour_16 (by decide) ?_
    obtain ⟨x7, h7, hf⟩ := Option.bind_eq_some_iff.mp hf
    refine r_callS (As := [.ref v0, .int 0, .int x6, .int v1, .int 0]) (rest := []) (st1 := [.int x7]) ⟨hx, hb, hml, hown, hts⟩ (kX5_gainedBy l G ρ v0 0 x6 v1 0 _ h7) (cu_S hts tw_3_32 tw_3_30 tw_3_31 tw_1_13 hdX5_gainedBy rfl rfl ⟨(Nat.le_of_ble_eq_true rfl), (Nat.le_of_ble_eq_true rfl)⟩) hK hR rfl hl.1 rfl (Nat.le_of_ble_eq_true rfl) dX5_firstHour_17 ⟨Nat.zero_le _, Nat.zero_le _⟩ rfl ?_
    refine lv_istore_n (lv' := [(3, .int x7), (2, .int 0), (0, .ref v0), (1, .int v1)]) hx hb dX5_firstHour_20 rfl hl (by decide) rfl (fun ls hl => ?_)
    refine lv_iconst (v := 1) hx hb dX5_firstHour_21 (by decide) ?_
    refine lv_istore (lv' := [(4, .int 1), (3, .int x7), (2, .int 0), (0, .ref v0), (1, .int v1)]) hx hb dX5_firstHour_22 hl (by decide) rfl (fun ls hl => ?_)
    exact L24 FU v0 v1 0 x7 1 ls hf (lv_sub hl [3, 4, 2, 1, 0] rfl)
  · replace hf := (if_neg c5).symm.trans hf
    refine lv_bipush (v := (-4)) hx hb dX5_firstHour_4 (by decide) ?_
    exact hret _ _ _ dX5_firstHour_6 hf
/-! BrickedUpAsBlind.game(II)I -/
def fX9_game (ρ : Rho) (v0 : Nat) (v1 : Int32) (v2 : Int32) : Option Int32 :=
    (fX0_isWithin ρ v1 0 4).bind fun x1 =>
    if x1 = 0 then (some (-1))
    else ((fX9_isZeroOrOne ρ v2).bind fun x3 =>
    if x3 = 0 then (some (-1))
    else (if v2 = 0 then ((gR ρ 2 v0 0).bind fun x8 =>
    (fX5_mostDue ρ x8 v1).bind fun x9 =>
    some x9)
    else ((gR ρ 2 v0 0).bind fun x6 =>
    (fX5_firstHour ρ x6 v1).bind fun x7 =>
    some x7)))
abbrev rX9_game : Room := { frames := 18, cells := 0, slots := 0, locals := 465 }
theorem hdX9_game : hdP yX9_game 2 := by unfold hdP; decide +kernel
set_option maxHeartbeats 4000000 in
set_option maxRecDepth 100000 in
theorem kX9_game (l : Launch) (G : GD) (ρ : Rho) (v0 : Nat) (v1 : Int32) (v2 : Int32) (r : Int32) (hf : fX9_game ρ v0 v1 v2 = some r) : RM l G yX9_game (Cond.code yX9_game cX9_game 3 (some .int) :: LW) rX9_game ρ [.ref v0, .int v1, .int v2] (some (.int r)) := by
  refine RM.ofI (own := RX9) (by decide) rfl (Nat.le_of_ble_eq_true rfl) ?_
  intro p e s m args below meth c H locs Q hx hb hml hown hts hK hR hret ls hl
  replace hl : lv_has ls 3 [(0, .ref v0), (1, .int v1), (2, .int v2)] := hl
  unfold fX9_game at hf
  refine lv_iload_n hx hb dX9_game_0 rfl (lv_at hl 1 rfl) ?_
  refine lv_iconst (v := 0) hx hb dX9_game_1 (by decide) ?_
  refine lv_iconst (v := 4) hx hb dX9_game_2 (by decide) ?_
  obtain ⟨x1, h1, hf⟩ := Option.bind_eq_some_iff.mp hf
  refine r_callS (As := [.int v1, .int 0, .int 4]) (rest := []) (st1 := [.int x1]) ⟨hx, hb, hml, hown, hts⟩ (kX0_isWithin l G ρ v1 0 4 _ h1) (cu_S hts tw_1_206 tw_3_3 tw_1_205 tw_1_2 hdX0_isWithin rfl rfl ⟨(Nat.le_of_ble_eq_true rfl), (Nat.le_of_ble_eq_true rfl)⟩) hK hR rfl hl.1 rfl (Nat.le_of_ble_eq_true rfl) dX9_game_3 ⟨Nat.zero_le _, Nat.zero_le _⟩ rfl ?_
  refine lv_if_eq (tgt := 16) hx hb dX9_game_6 (by decide) (fun c2 => ?_) (fun c2 => ?_)
  · replace hf := (if_pos c2).symm.trans hf
    refine lv_iconst (v := (-1)) hx hb dX9_game_16 (by decide) ?_
    exact hret _ _ _ dX9_game_17 hf
  · replace hf := (if_neg c2).symm.trans hf
    refine lv_iload_n hx hb dX9_game_9 rfl (lv_at hl 2 rfl) ?_
    obtain ⟨x3, h3, hf⟩ := Option.bind_eq_some_iff.mp hf
    refine r_callS (As := [.int v2]) (rest := []) (st1 := [.int x3]) ⟨hx, hb, hml, hown, hts⟩ (kX9_isZeroOrOne l G ρ v2 _ h3) (cu_S hts tw_2_121 tw_2_119 tw_2_120 tw_1_1 hdX9_isZeroOrOne rfl rfl ⟨(Nat.le_of_ble_eq_true rfl), (Nat.le_of_ble_eq_true rfl)⟩) hK hR rfl hl.1 rfl (Nat.le_of_ble_eq_true rfl) dX9_game_10 ⟨Nat.zero_le _, Nat.zero_le _⟩ rfl ?_
    refine lv_if_ne (tgt := 18) hx hb dX9_game_13 (by decide) (fun c4 => ?_) (fun c4 => ?_)
    · replace hf := (if_neg c4).symm.trans hf
      refine lv_iload_n hx hb dX9_game_18 rfl (lv_at hl 2 rfl) ?_
      refine lv_if_ne (tgt := 33) hx hb dX9_game_19 (by decide) (fun c5 => ?_) (fun c5 => ?_)
      · replace hf := (if_neg c5).symm.trans hf
        refine lv_aload_n hx hb dX9_game_33 rfl (lv_at hl 0 rfl) ?_
        obtain ⟨x6, h6, hf⟩ := Option.bind_eq_some_iff.mp hf
        refine r_gR hx hb hts inX9 hown hK hR rfl 0 (by decide) (hts _ tw_1_132) h6 dX9_game_34 ?_
        refine lv_iload_n hx hb dX9_game_37 rfl (lv_at hl 1 rfl) ?_
        obtain ⟨x7, h7, hf⟩ := Option.bind_eq_some_iff.mp hf
        refine r_callS (As := [.ref x6, .int v1]) (rest := []) (st1 := [.int x7]) ⟨hx, hb, hml, hown, hts⟩ (kX5_firstHour l G ρ x6 v1 _ h7) (cu_S hts tw_3_41 tw_3_39 tw_3_40 tw_1_13 hdX5_firstHour rfl rfl ⟨(Nat.le_of_ble_eq_true rfl), (Nat.le_of_ble_eq_true rfl)⟩) hK hR rfl hl.1 rfl (Nat.le_of_ble_eq_true rfl) dX9_game_38 ⟨Nat.zero_le _, Nat.zero_le _⟩ rfl ?_
        exact hret _ _ _ dX9_game_41 hf
      · replace hf := (if_pos c5).symm.trans hf
        refine lv_aload_n hx hb dX9_game_22 rfl (lv_at hl 0 rfl) ?_
        obtain ⟨x8, h8, hf⟩ := Option.bind_eq_some_iff.mp hf
        refine r_gR hx hb hts inX9 hown hK hR rfl 0 (by decide) (hts _ tw_1_132) h8 dX9_game_23 ?_
        refine lv_iload_n hx hb dX9_game_26 rfl (lv_at hl 1 rfl) ?_
        obtain ⟨x9, h9, hf⟩ := Option.bind_eq_some_iff.mp hf
        refine r_callS (As := [.ref x8, .int v1]) (rest := []) (st1 := [.int x9]) ⟨hx, hb, hml, hown, hts⟩ (kX5_mostDue l G ρ x8 v1 _ h9) (cu_S hts tw_3_26 tw_3_24 tw_3_25 tw_1_13 hdX5_mostDue rfl rfl ⟨(Nat.le_of_ble_eq_true rfl), (Nat.le_of_ble_eq_true rfl)⟩) hK hR rfl hl.1 rfl (Nat.le_of_ble_eq_true rfl) dX9_game_27 ⟨Nat.zero_le _, Nat.zero_le _⟩ rfl ?_
        refine lv_goto (tgt := 41) hx hb dX9_game_30 (by decide) ?_
        exact hret _ _ _ dX9_game_41 hf
    · replace hf := (if_pos c4).symm.trans hf
      refine lv_iconst (v := (-1)) hx hb dX9_game_16 (by decide) ?_
      exact hret _ _ _ dX9_game_17 hf
theorem hdX10_assessed : hdP yX10_assessed 2 := by unfold hdP; decide +kernel
theorem hdX10_answered : hdP yX10_answered 2 := by unfold hdP; decide +kernel
/-! BrickedUpAsBlindModel.assessed(II)I -/
def FX10_assessed_80 (gX10_answered : Rho → Nat → Int32 → Int32 → Option (Int32 × Rho)) (k15 : Rho → Nat → Int32 → Int32 → Int32 → Int32 → Int32 → Option (Int32 × Rho)) (ρ : Rho) (v0 : Nat) (v1 : Int32) (v2 : Int32) (v3 : Int32) (v4 : Int32) (v5 : Int32) : Option (Int32 × Rho) :=
    k15 ρ v0 v1 v2 v3 v4 (v5 + 1)
def FX10_assessed_15 (gX10_answered : Rho → Nat → Int32 → Int32 → Option (Int32 × Rho)) : Nat → Rho → Nat → Int32 → Int32 → Int32 → Int32 → Int32 → Option (Int32 × Rho)
  | 0, _, _, _, _, _, _, _ => none
  | n + 1, ρ, v0, v1, v2, v3, v4, v5 =>
    if (4 : Int32) ≤ v5 then ((ptV ρ 3 v0 10 (.int v4)).bind fun x2 =>
    some (v3, x2))
    else ((fX10_has ρ v2 v5).bind fun x3 =>
    if x3 = 0 then ((gR ρ 3 v0 1).bind fun x5 =>
    (fX10_movesDue ρ x5 ((6 : Int32) * v5)).bind fun x6 =>
    (ckO ρ 3 v0).bind fun x7 =>
    (gX10_answered ρ v0 (v1 - 1) (v2 ||| ((1 : Int32) <<< (v5 &&& 31)))).bind fun x8 =>
    if v3 < (x6 + x8.1) then (FX10_assessed_80 gX10_answered (FX10_assessed_15 gX10_answered n) x8.2 v0 v1 v2 (x6 + x8.1) ((6 : Int32) * v5) v5)
    else (FX10_assessed_80 gX10_answered (FX10_assessed_15 gX10_answered n) x8.2 v0 v1 v2 v3 v4 v5))
    else (FX10_assessed_80 gX10_answered (FX10_assessed_15 gX10_answered n) ρ v0 v1 v2 v3 v4 v5))
def FX10_assessed (ρ : Rho) (gX10_answered : Rho → Nat → Int32 → Int32 → Option (Int32 × Rho)) (v0 : Nat) (v1 : Int32) (v2 : Int32) : Option (Int32 × Rho) :=
    if v1 = 0 then (some (0, ρ))
    else (FX10_assessed_15 gX10_answered FU ρ v0 v1 v2 (-1) (-4) 0)
set_option maxHeartbeats 4000000 in
set_option maxRecDepth 100000 in
theorem kX10_assessed_open (l : Launch) (G : GD) (fF lL fB lB : Nat) (hF : 5 ≤ fF) (hL : 110 ≤ lL) (hB : fB + 1 ≤ fF ∧ 8 + (5 + 11) + lB ≤ lL) (gX10_answered : Rho → Nat → Int32 → Int32 → Option (Int32 × Rho)) (hgX10_answered : ∀ (ρ : Rho) (v0 : Nat) (v1 : Int32) (v2 : Int32) (r0 : Int32) (ρ1 : Rho), gX10_answered ρ v0 v1 v2 = some (r0, ρ1) → WM l G yX10_answered (Cond.code yX10_answered cX10_answered 5 (some .int) :: LW) ({ frames := fB, cells := 0, slots := 0, locals := lB } : Room) ρ [.ref v0, .int v1, .int v2] (some (.int r0)) ρ1) (ρ : Rho) (v0 : Nat) (v1 : Int32) (v2 : Int32) (r0 : Int32) (ρ1 : Rho) (hf : FX10_assessed ρ gX10_answered v0 v1 v2 = some (r0, ρ1)) : WM l G yX10_assessed (Cond.code yX10_assessed cX10_assessed 7 (some .int) :: LW) ({ frames := fF, cells := 0, slots := 0, locals := lL } : Room) ρ [.ref v0, .int v1, .int v2] (some (.int r0)) ρ1 := by
  obtain ⟨r, hr⟩ : ∃ r, r = (r0, ρ1) := ⟨_, rfl⟩
  rw [← hr] at hf
  refine WM.ofI (own := RX10) (r := r) hr (by decide) rfl (Nat.le_of_ble_eq_true rfl) ?_
  intro p e s m args below meth c H locs Q hx hb hml hown hts hK hR hS hret ls hl
  obtain ⟨ρ0, hρ0⟩ : ∃ z, z = ρ := ⟨_, rfl⟩
  rw [← hρ0] at hret
  replace hS : WS ρ0 s.heap ρ H locs := hρ0 ▸ hS
  replace hl : lv_has ls 7 [(0, .ref v0), (1, .int v1), (2, .int v2)] := hl
  have J80 : ∀ (k15 : Rho → Nat → Int32 → Int32 → Int32 → Int32 → Int32 → Option (Int32 × Rho)) (_ : ∀ (ρ : Rho) (v0 : Nat) (v1 : Int32) (v2 : Int32) (v3 : Int32) (v4 : Int32) (v5 : Int32) (H : Heap) (locs : List Loc) (ls : Array Slot), k15 ρ v0 v1 v2 v3 v4 v5 = some r → lv_has ls 7 [(0, .ref v0), (1, .int v1), (2, .int v2), (3, .int v3), (4, .int v4), (5, .int v5)] → RW G ρ H → WS ρ0 s.heap ρ H locs → W p l e ({ frames := fF, cells := 0, slots := 0, locals := lL } : Room) s m args below meth c H locs 0 0 Q (F0 m 15 ls [])), ∀ (ρ : Rho) (v0 : Nat) (v1 : Int32) (v2 : Int32) (v3 : Int32) (v4 : Int32) (v5 : Int32) (H : Heap) (locs : List Loc) (ls : Array Slot), FX10_assessed_80 gX10_answered k15 ρ v0 v1 v2 v3 v4 v5 = some r → lv_has ls 7 [(0, .ref v0), (1, .int v1), (2, .int v2), (3, .int v3), (4, .int v4), (5, .int v5)] → RW G ρ H → WS ρ0 s.heap ρ H locs → W p l e ({ frames := fF, cells := 0, slots := 0, locals := lL } : Room) s m args below meth c H locs 0 0 Q (F0 m 80 ls []) := by
    intro k15 hk15 ρ v0 v1 v2 v3 v4 v5 H locs ls hf hl hR hS
    rw [FX10_assessed_80] at hf
    refine lv_iinc (v := (v5 + 1)) (lv' := [(5, .int (v5 + 1)), (0, .ref v0), (1, .int v1), (2, .int v2), (3, .int v3), (4, .int v4)]) hx hb dX10_assessed_80 hl (k := 5) rfl rfl (by decide) rfl (fun ls hl => ?_)
    refine lv_goto (tgt := 15) hx hb dX10_assessed_83 (by decide) ?_
    exact hk15 ρ v0 v1 v2 v3 v4 (v5 + 1) H locs ls hf (lv_sub hl [1, 2, 3, 4, 5, 0] rfl) hR hS
  have L15 : ∀ (n : Nat) (ρ : Rho) (v0 : Nat) (v1 : Int32) (v2 : Int32) (v3 : Int32) (v4 : Int32) (v5 : Int32) (H : Heap) (locs : List Loc) (ls : Array Slot), FX10_assessed_15 gX10_answered n ρ v0 v1 v2 v3 v4 v5 = some r → lv_has ls 7 [(0, .ref v0), (1, .int v1), (2, .int v2), (3, .int v3), (4, .int v4), (5, .int v5)] → RW G ρ H → WS ρ0 s.heap ρ H locs → W p l e ({ frames := fF, cells := 0, slots := 0, locals := lL } : Room) s m args below meth c H locs 0 0 Q (F0 m 15 ls []) := by
    intro n
    induction n with
    | zero =>
      intro ρ v0 v1 v2 v3 v4 v5 H locs ls hf
      rw [FX10_assessed_15] at hf
      cases hf
    | succ n ih =>
      intro ρ v0 v1 v2 v3 v4 v5 H locs ls hf hl hR hS
      rw [FX10_assessed_15] at hf
      refine lv_iload hx hb dX10_assessed_15 (lv_at hl 5 rfl) ?_
      refine lv_iconst (v := 4) hx hb dX10_assessed_17 (by decide) ?_
      refine lv_icmp_ge (tgt := 86) hx hb dX10_assessed_18 (by decide) (fun c1 => ?_) (fun c1 => ?_)
      · replace hf := (if_pos c1).symm.trans hf
        refine lv_aload_n hx hb dX10_assessed_86 rfl (lv_at hl 0 rfl) ?_
        refine lv_iload hx hb dX10_assessed_87 (lv_at hl 4 rfl) ?_
        obtain ⟨x2, h2, hf⟩ := Option.bind_eq_some_iff.mp hf
        refine w_ptV hx hb hts inX10 tyX10 tyX10_ok nmX10 hown hK hR hS rfl 10 (by decide) (hts _ tw_4_120) rfl (ty := .int) rfl rfl rfl h2 dX10_assessed_89 (fun H locs hR hS => ?_)
        refine lv_iload_n hx hb dX10_assessed_92 rfl (lv_at hl 3 rfl) ?_
        exact hret _ _ _ _ _ _ dX10_assessed_93 hR hS hf
      · replace hf := (if_neg c1).symm.trans hf
        refine lv_iload_n hx hb dX10_assessed_21 rfl (lv_at hl 2 rfl) ?_
        refine lv_iload hx hb dX10_assessed_22 (lv_at hl 5 rfl) ?_
        obtain ⟨x3, h3, hf⟩ := Option.bind_eq_some_iff.mp hf
        refine r_callS (As := [.int v2, .int v5]) (rest := []) (st1 := [.int x3]) ⟨hx, hb, hml, hown, hts⟩ (kX10_has l G ρ v2 v5 _ h3) (cu_S hts tw_5_107 tw_5_105 tw_5_106 tw_1_4 hdX10_has rfl rfl ⟨(Nat.le_trans (Nat.le_of_ble_eq_true rfl) hF), (Nat.le_trans (Nat.le_of_ble_eq_true rfl) hL)⟩) hK hR rfl hl.1 rfl (Nat.le_of_ble_eq_true rfl) dX10_assessed_24 ⟨Nat.zero_le _, Nat.zero_le _⟩ rfl ?_
        refine lv_if_eq (tgt := 33) hx hb dX10_assessed_27 (by decide) (fun c4 => ?_) (fun c4 => ?_)
        · replace hf := (if_pos c4).symm.trans hf
          refine lv_aload_n hx hb dX10_assessed_33 rfl (lv_at hl 0 rfl) ?_
          obtain ⟨x5, h5, hf⟩ := Option.bind_eq_some_iff.mp hf
          refine r_gR hx hb hts inX10 hown hK hR rfl 1 (by decide) (hts _ tw_4_111) h5 dX10_assessed_34 ?_
          refine lv_bipush (v := 6) hx hb dX10_assessed_37 (by decide) ?_
          refine lv_iload hx hb dX10_assessed_39 (lv_at hl 5 rfl) ?_
          refine lv_imul hx hb dX10_assessed_41 ?_
          obtain ⟨x6, h6, hf⟩ := Option.bind_eq_some_iff.mp hf
          refine r_callS (As := [.ref x5, .int ((6 : Int32) * v5)]) (rest := []) (st1 := [.int x6]) ⟨hx, hb, hml, hown, hts⟩ (kX10_movesDue l G ρ x5 ((6 : Int32) * v5) _ h6) (cu_S hts tw_4_237 tw_4_235 tw_4_236 tw_1_4 hdX10_movesDue rfl rfl ⟨(Nat.le_trans (Nat.le_of_ble_eq_true rfl) hF), (Nat.le_trans (Nat.le_of_ble_eq_true rfl) hL)⟩) hK hR rfl hl.1 rfl (Nat.le_of_ble_eq_true rfl) dX10_assessed_42 ⟨Nat.zero_le _, Nat.zero_le _⟩ rfl ?_
          refine lv_aload_n hx hb dX10_assessed_45 rfl (lv_at hl 0 rfl) ?_
          refine lv_iload_n hx hb dX10_assessed_46 rfl (lv_at hl 1 rfl) ?_
          refine lv_iconst (v := 1) hx hb dX10_assessed_47 (by decide) ?_
          refine lv_isub hx hb dX10_assessed_48 ?_
          refine lv_iload_n hx hb dX10_assessed_49 rfl (lv_at hl 2 rfl) ?_
          refine lv_iconst (v := 1) hx hb dX10_assessed_50 (by decide) ?_
          refine lv_iload hx hb dX10_assessed_51 (lv_at hl 5 rfl) ?_
          refine lv_ishl hx hb dX10_assessed_53 ?_
          refine lv_ior hx hb dX10_assessed_54 ?_
          obtain ⟨x7, h7, hf⟩ := Option.bind_eq_some_iff.mp hf
          obtain ⟨x8, h8, hf⟩ := Option.bind_eq_some_iff.mp hf
          refine w_callV (As := [.int (v1 - 1), .int (v2 ||| ((1 : Int32) <<< (v5 &&& 31)))]) (rest := [.int x6]) (st1 := [.int x8.1, .int x6]) ⟨hx, hb, hml, hown, hts⟩ (hgX10_answered ρ v0 (v1 - 1) (v2 ||| ((1 : Int32) <<< (v5 &&& 31))) _ _ h8) (cu_V hts tw_5_172 tw_5_169 tw_5_171 tp_1_13 tw_1_4 hdX10_answered rfl rfl hB) hK hR hS rfl h7 rfl hl.1 rfl (Nat.le_of_ble_eq_true rfl) dX10_assessed_55 ⟨Nat.zero_le _, Nat.zero_le _⟩ rfl (fun H locs hR hS => ?_)
          refine lv_iadd hx hb dX10_assessed_58 ?_
          refine lv_istore (lv' := [(6, .int (x6 + x8.1)), (0, .ref v0), (1, .int v1), (2, .int v2), (3, .int v3), (4, .int v4), (5, .int v5)]) hx hb dX10_assessed_59 hl (by decide) rfl (fun ls hl => ?_)
          refine lv_iload hx hb dX10_assessed_61 (lv_at hl 0 rfl) ?_
          refine lv_iload_n hx hb dX10_assessed_63 rfl (lv_at hl 4 rfl) ?_
          refine lv_icmp_gt (tgt := 70) hx hb dX10_assessed_64 (by decide) (fun c9 => ?_) (fun c9 => ?_)
          · replace hf := (if_pos c9).symm.trans hf
            refine lv_iload hx hb dX10_assessed_70 (lv_at hl 0 rfl) ?_
            refine lv_istore_n (lv' := [(3, .int (x6 + x8.1)), (6, .int (x6 + x8.1)), (0, .ref v0), (1, .int v1), (2, .int v2), (4, .int v4), (5, .int v5)]) hx hb dX10_assessed_72 rfl hl (by decide) rfl (fun ls hl => ?_)
            refine lv_bipush (v := 6) hx hb dX10_assessed_73 (by decide) ?_
            refine lv_iload hx hb dX10_assessed_75 (lv_at hl 6 rfl) ?_
            refine lv_imul hx hb dX10_assessed_77 ?_
            refine lv_istore (lv' := [(4, .int ((6 : Int32) * v5)), (3, .int (x6 + x8.1)), (6, .int (x6 + x8.1)), (0, .ref v0), (1, .int v1), (2, .int v2), (5, .int v5)]) hx hb dX10_assessed_78 hl (by decide) rfl (fun ls hl => ?_)
            exact J80 _ ih x8.2 v0 v1 v2 (x6 + x8.1) ((6 : Int32) * v5) v5 H locs ls hf (lv_sub hl [3, 4, 5, 1, 0, 6] rfl) hR hS
          · replace hf := (if_neg c9).symm.trans hf
            refine lv_goto (tgt := 80) hx hb dX10_assessed_67 (by decide) ?_
            exact J80 _ ih x8.2 v0 v1 v2 v3 v4 v5 H locs ls hf (lv_sub hl [1, 2, 3, 4, 5, 6] rfl) hR hS
        · replace hf := (if_neg c4).symm.trans hf
          refine lv_goto (tgt := 80) hx hb dX10_assessed_30 (by decide) ?_
          exact J80 _ ih ρ v0 v1 v2 v3 v4 v5 H locs ls hf (lv_sub hl [0, 1, 2, 3, 4, 5] rfl) hR hS
  unfold FX10_assessed at hf
  refine lv_iload_n hx hb dX10_assessed_0 rfl (lv_at hl 1 rfl) ?_
  refine lv_if_ne (tgt := 6) hx hb dX10_assessed_1 (by decide) (fun c10 => ?_) (fun c10 => ?_)
  · replace hf := (if_neg c10).symm.trans hf
    refine lv_iconst (v := (-1)) hx hb dX10_assessed_6 (by decide) ?_
    refine lv_istore_n (lv' := [(3, .int (-1)), (0, .ref v0), (1, .int v1), (2, .int v2)]) hx hb dX10_assessed_7 rfl hl (by decide) rfl (fun ls hl => ?_)
    refine lv_bipush (v := (-4)) hx hb dX10_assessed_8 (by decide) ?_
    refine lv_istore (lv' := [(4, .int (-4)), (3, .int (-1)), (0, .ref v0), (1, .int v1), (2, .int v2)]) hx hb dX10_assessed_10 hl (by decide) rfl (fun ls hl => ?_)
    refine lv_iconst (v := 0) hx hb dX10_assessed_12 (by decide) ?_
    refine lv_istore (lv' := [(5, .int 0), (4, .int (-4)), (3, .int (-1)), (0, .ref v0), (1, .int v1), (2, .int v2)]) hx hb dX10_assessed_13 hl (by decide) rfl (fun ls hl => ?_)
    exact L15 FU ρ v0 v1 v2 (-1) (-4) 0 H locs ls hf (lv_sub hl [3, 4, 5, 2, 1, 0] rfl) hR hS
  · replace hf := (if_pos c10).symm.trans hf
    refine lv_iconst (v := 0) hx hb dX10_assessed_4 (by decide) ?_
    exact hret _ _ _ _ _ _ dX10_assessed_5 hR hS hf
/-! BrickedUpAsBlindModel.answered(II)I -/
def FX10_answered_75 (gX10_assessed : Rho → Nat → Int32 → Int32 → Option (Int32 × Rho)) (k10 : Rho → Nat → Int32 → Int32 → Int32 → Int32 → Option (Int32 × Rho)) (ρ : Rho) (v0 : Nat) (v1 : Int32) (v2 : Int32) (v3 : Int32) (v4 : Int32) : Option (Int32 × Rho) :=
    k10 ρ v0 v1 v2 v3 (v4 + 1)
def FX10_answered_10 (gX10_assessed : Rho → Nat → Int32 → Int32 → Option (Int32 × Rho)) : Nat → Rho → Nat → Int32 → Int32 → Int32 → Int32 → Option (Int32 × Rho)
  | 0, _, _, _, _, _, _ => none
  | n + 1, ρ, v0, v1, v2, v3, v4 =>
    (gR ρ 3 v0 0).bind fun x1 =>
    (ldI ρ x1 0).bind fun x2 =>
    if x2 ≤ v4 then (some (v3, ρ))
    else (if v1 ≤ 0 then (some (v3, ρ))
    else ((gR ρ 3 v0 1).bind fun x5 =>
    (fX10_isOpen ρ x5 v4).bind fun x6 =>
    if x6 = 0 then (FX10_answered_75 gX10_assessed (FX10_answered_10 gX10_assessed n) ρ v0 v1 v2 v3 v4)
    else ((gR ρ 3 v0 1).bind fun x8 =>
    (fX10_of ρ v4 4).bind fun x9 =>
    (stI ρ x8 x9 1).bind fun x10 =>
    (ckO x10 3 v0).bind fun x11 =>
    (gX10_assessed x10 v0 v1 v2).bind fun x12 =>
    (fX10_least x12.2 v3 x12.1).bind fun x13 =>
    (gR x12.2 3 v0 1).bind fun x14 =>
    (fX10_of x12.2 v4 4).bind fun x15 =>
    (stI x12.2 x14 x15 0).bind fun x16 =>
    FX10_answered_75 gX10_assessed (FX10_answered_10 gX10_assessed n) x16 v0 v1 v2 x13 v4)))
def FX10_answered (ρ : Rho) (gX10_assessed : Rho → Nat → Int32 → Int32 → Option (Int32 × Rho)) (v0 : Nat) (v1 : Int32) (v2 : Int32) : Option (Int32 × Rho) :=
    (ckO ρ 3 v0).bind fun x17 =>
    (gX10_assessed ρ v0 v1 v2).bind fun x18 =>
    FX10_answered_10 gX10_assessed FU x18.2 v0 v1 v2 x18.1 0
set_option maxHeartbeats 4000000 in
set_option maxRecDepth 100000 in
theorem kX10_answered_open (l : Launch) (G : GD) (fF lL fB lB : Nat) (hF : 5 ≤ fF) (hL : 110 ≤ lL) (hB : fB + 1 ≤ fF ∧ 8 + (7 + 11) + lB ≤ lL) (gX10_assessed : Rho → Nat → Int32 → Int32 → Option (Int32 × Rho)) (hgX10_assessed : ∀ (ρ : Rho) (v0 : Nat) (v1 : Int32) (v2 : Int32) (r0 : Int32) (ρ1 : Rho), gX10_assessed ρ v0 v1 v2 = some (r0, ρ1) → WM l G yX10_assessed (Cond.code yX10_assessed cX10_assessed 7 (some .int) :: LW) ({ frames := fB, cells := 0, slots := 0, locals := lB } : Room) ρ [.ref v0, .int v1, .int v2] (some (.int r0)) ρ1) (ρ : Rho) (v0 : Nat) (v1 : Int32) (v2 : Int32) (r0 : Int32) (ρ1 : Rho) (hf : FX10_answered ρ gX10_assessed v0 v1 v2 = some (r0, ρ1)) : WM l G yX10_answered (Cond.code yX10_answered cX10_answered 5 (some .int) :: LW) ({ frames := fF, cells := 0, slots := 0, locals := lL } : Room) ρ [.ref v0, .int v1, .int v2] (some (.int r0)) ρ1 := by
  obtain ⟨r, hr⟩ : ∃ r, r = (r0, ρ1) := ⟨_, rfl⟩
  rw [← hr] at hf
  refine WM.ofI (own := RX10) (r := r) hr (by decide) rfl (Nat.le_of_ble_eq_true rfl) ?_
  intro p e s m args below meth c H locs Q hx hb hml hown hts hK hR hS hret ls hl
  obtain ⟨ρ0, hρ0⟩ : ∃ z, z = ρ := ⟨_, rfl⟩
  rw [← hρ0] at hret
  replace hS : WS ρ0 s.heap ρ H locs := hρ0 ▸ hS
  replace hl : lv_has ls 5 [(0, .ref v0), (1, .int v1), (2, .int v2)] := hl
  have J75 : ∀ (k10 : Rho → Nat → Int32 → Int32 → Int32 → Int32 → Option (Int32 × Rho)) (_ : ∀ (ρ : Rho) (v0 : Nat) (v1 : Int32) (v2 : Int32) (v3 : Int32) (v4 : Int32) (H : Heap) (locs : List Loc) (ls : Array Slot), k10 ρ v0 v1 v2 v3 v4 = some r → lv_has ls 5 [(0, .ref v0), (1, .int v1), (2, .int v2), (3, .int v3), (4, .int v4)] → RW G ρ H → WS ρ0 s.heap ρ H locs → W p l e ({ frames := fF, cells := 0, slots := 0, locals := lL } : Room) s m args below meth c H locs 0 0 Q (F0 m 10 ls [])), ∀ (ρ : Rho) (v0 : Nat) (v1 : Int32) (v2 : Int32) (v3 : Int32) (v4 : Int32) (H : Heap) (locs : List Loc) (ls : Array Slot), FX10_answered_75 gX10_assessed k10 ρ v0 v1 v2 v3 v4 = some r → lv_has ls 5 [(0, .ref v0), (1, .int v1), (2, .int v2), (3, .int v3), (4, .int v4)] → RW G ρ H → WS ρ0 s.heap ρ H locs → W p l e ({ frames := fF, cells := 0, slots := 0, locals := lL } : Room) s m args below meth c H locs 0 0 Q (F0 m 75 ls []) := by
    intro k10 hk10 ρ v0 v1 v2 v3 v4 H locs ls hf hl hR hS
    rw [FX10_answered_75] at hf
    refine lv_iinc (v := (v4 + 1)) (lv' := [(4, .int (v4 + 1)), (0, .ref v0), (1, .int v1), (2, .int v2), (3, .int v3)]) hx hb dX10_answered_75 hl (k := 4) rfl rfl (by decide) rfl (fun ls hl => ?_)
    refine lv_goto (tgt := 10) hx hb dX10_answered_78 (by decide) ?_
    exact hk10 ρ v0 v1 v2 v3 (v4 + 1) H locs ls hf (lv_sub hl [1, 2, 3, 4, 0] rfl) hR hS
  have L10 : ∀ (n : Nat) (ρ : Rho) (v0 : Nat) (v1 : Int32) (v2 : Int32) (v3 : Int32) (v4 : Int32) (H : Heap) (locs : List Loc) (ls : Array Slot), FX10_answered_10 gX10_assessed n ρ v0 v1 v2 v3 v4 = some r → lv_has ls 5 [(0, .ref v0), (1, .int v1), (2, .int v2), (3, .int v3), (4, .int v4)] → RW G ρ H → WS ρ0 s.heap ρ H locs → W p l e ({ frames := fF, cells := 0, slots := 0, locals := lL } : Room) s m args below meth c H locs 0 0 Q (F0 m 10 ls []) := by
    intro n
    induction n with
    | zero =>
      intro ρ v0 v1 v2 v3 v4 H locs ls hf
      rw [FX10_answered_10] at hf
      cases hf
    | succ n ih =>
      intro ρ v0 v1 v2 v3 v4 H locs ls hf hl hR hS
      rw [FX10_answered_10] at hf
      refine lv_iload hx hb dX10_answered_10 (lv_at hl 4 rfl) ?_
      refine lv_aload_n hx hb dX10_answered_12 rfl (lv_at hl 0 rfl) ?_
      obtain ⟨x1, h1, hf⟩ := Option.bind_eq_some_iff.mp hf
      refine r_gR hx hb hts inX10 hown hK hR rfl 0 (by decide) (hts _ tw_4_110) h1 dX10_answered_13 ?_
      refine lv_iconst (v := 0) hx hb dX10_answered_16 (by decide) ?_
      obtain ⟨x2, h2, hf⟩ := Option.bind_eq_some_iff.mp hf
      refine r_ldI hx hb hK hR h2 dX10_answered_17 ?_
      refine lv_icmp_ge (tgt := 81) hx hb dX10_answered_18 (by decide) (fun c3 => ?_) (fun c3 => ?_)
      · replace hf := (if_pos c3).symm.trans hf
        refine lv_iload_n hx hb dX10_answered_81 rfl (lv_at hl 3 rfl) ?_
        exact hret _ _ _ _ _ _ dX10_answered_82 hR hS hf
      · replace hf := (if_neg c3).symm.trans hf
        refine lv_iload_n hx hb dX10_answered_21 rfl (lv_at hl 1 rfl) ?_
        refine lv_if_le (tgt := 81) hx hb dX10_answered_22 (by decide) (fun c4 => ?_) (fun c4 => ?_)
        · replace hf := (if_pos c4).symm.trans hf
          refine lv_iload_n hx hb dX10_answered_81 rfl (lv_at hl 3 rfl) ?_
          exact hret _ _ _ _ _ _ dX10_answered_82 hR hS hf
        · replace hf := (if_neg c4).symm.trans hf
          refine lv_aload_n hx hb dX10_answered_25 rfl (lv_at hl 0 rfl) ?_
          obtain ⟨x5, h5, hf⟩ := Option.bind_eq_some_iff.mp hf
          refine r_gR hx hb hts inX10 hown hK hR rfl 1 (by decide) (hts _ tw_4_111) h5 dX10_answered_26 ?_
          refine lv_iload hx hb dX10_answered_29 (lv_at hl 4 rfl) ?_
          obtain ⟨x6, h6, hf⟩ := Option.bind_eq_some_iff.mp hf
          refine r_callS (As := [.ref x5, .int v4]) (rest := []) (st1 := [.int x6]) ⟨hx, hb, hml, hown, hts⟩ (kX10_isOpen l G ρ x5 v4 _ h6) (cu_S hts tw_4_231 tw_4_229 tw_4_230 tw_1_4 hdX10_isOpen rfl rfl ⟨(Nat.le_trans (Nat.le_of_ble_eq_true rfl) hF), (Nat.le_trans (Nat.le_of_ble_eq_true rfl) hL)⟩) hK hR rfl hl.1 rfl (Nat.le_of_ble_eq_true rfl) dX10_answered_31 ⟨Nat.zero_le _, Nat.zero_le _⟩ rfl ?_
          refine lv_if_ne (tgt := 40) hx hb dX10_answered_34 (by decide) (fun c7 => ?_) (fun c7 => ?_)
          · replace hf := (if_neg c7).symm.trans hf
            refine lv_aload_n hx hb dX10_answered_40 rfl (lv_at hl 0 rfl) ?_
            obtain ⟨x8, h8, hf⟩ := Option.bind_eq_some_iff.mp hf
            refine r_gR hx hb hts inX10 hown hK hR rfl 1 (by decide) (hts _ tw_4_111) h8 dX10_answered_41 ?_
            refine lv_iload hx hb dX10_answered_44 (lv_at hl 4 rfl) ?_
            refine lv_iconst (v := 4) hx hb dX10_answered_46 (by decide) ?_
            obtain ⟨x9, h9, hf⟩ := Option.bind_eq_some_iff.mp hf
            refine r_callS (As := [.int v4, .int 4]) (rest := [.ref x8]) (st1 := [.int x9, .ref x8]) ⟨hx, hb, hml, hown, hts⟩ (kX10_of l G ρ v4 4 _ h9) (cu_S hts tw_4_213 tw_4_211 tw_4_212 tw_1_4 hdX10_of rfl rfl ⟨(Nat.le_trans (Nat.le_of_ble_eq_true rfl) hF), (Nat.le_trans (Nat.le_of_ble_eq_true rfl) hL)⟩) hK hR rfl hl.1 rfl (Nat.le_of_ble_eq_true rfl) dX10_answered_47 ⟨Nat.zero_le _, Nat.zero_le _⟩ rfl ?_
            refine lv_iconst (v := 1) hx hb dX10_answered_50 (by decide) ?_
            obtain ⟨x10, h10, hf⟩ := Option.bind_eq_some_iff.mp hf
            refine w_stI hx hb hK hR hS h10 dX10_answered_51 (fun H locs hR hS => ?_)
            refine lv_iload_n hx hb dX10_answered_52 rfl (lv_at hl 3 rfl) ?_
            refine lv_aload_n hx hb dX10_answered_53 rfl (lv_at hl 0 rfl) ?_
            refine lv_iload_n hx hb dX10_answered_54 rfl (lv_at hl 1 rfl) ?_
            refine lv_iload_n hx hb dX10_answered_55 rfl (lv_at hl 2 rfl) ?_
            obtain ⟨x11, h11, hf⟩ := Option.bind_eq_some_iff.mp hf
            obtain ⟨x12, h12, hf⟩ := Option.bind_eq_some_iff.mp hf
            refine w_callV (As := [.int v1, .int v2]) (rest := [.int v3]) (st1 := [.int x12.1, .int v3]) ⟨hx, hb, hml, hown, hts⟩ (hgX10_assessed x10 v0 v1 v2 _ _ h12) (cu_V hts tw_5_168 tw_5_165 tw_5_167 tp_1_12 tw_1_4 hdX10_assessed rfl rfl hB) hK hR hS rfl h11 rfl hl.1 rfl (Nat.le_of_ble_eq_true rfl) dX10_answered_56 ⟨Nat.zero_le _, Nat.zero_le _⟩ rfl (fun H locs hR hS => ?_)
            obtain ⟨x13, h13, hf⟩ := Option.bind_eq_some_iff.mp hf
            refine r_callS (As := [.int v3, .int x12.1]) (rest := []) (st1 := [.int x13]) ⟨hx, hb, hml, hown, hts⟩ (kX10_least l G x12.2 v3 x12.1 _ h13) (cu_S hts tw_5_9 tw_5_7 tw_5_8 tw_1_4 hdX10_least rfl rfl ⟨(Nat.le_trans (Nat.le_of_ble_eq_true rfl) hF), (Nat.le_trans (Nat.le_of_ble_eq_true rfl) hL)⟩) hK hR rfl hl.1 rfl (Nat.le_of_ble_eq_true rfl) dX10_answered_59 ⟨Nat.zero_le _, Nat.zero_le _⟩ rfl ?_
            refine lv_istore_n (lv' := [(3, .int x13), (0, .ref v0), (1, .int v1), (2, .int v2), (4, .int v4)]) hx hb dX10_answered_62 rfl hl (by decide) rfl (fun ls hl => ?_)
            refine lv_aload_n hx hb dX10_answered_63 rfl (lv_at hl 1 rfl) ?_
            obtain ⟨x14, h14, hf⟩ := Option.bind_eq_some_iff.mp hf
            refine r_gR hx hb hts inX10 hown hK hR rfl 1 (by decide) (hts _ tw_4_111) h14 dX10_answered_64 ?_
            refine lv_iload hx hb dX10_answered_67 (lv_at hl 4 rfl) ?_
            refine lv_iconst (v := 4) hx hb dX10_answered_69 (by decide) ?_
            obtain ⟨x15, h15, hf⟩ := Option.bind_eq_some_iff.mp hf
            refine r_callS (As := [.int v4, .int 4]) (rest := [.ref x14]) (st1 := [.int x15, .ref x14]) ⟨hx, hb, hml, hown, hts⟩ (kX10_of l G x12.2 v4 4 _ h15) (cu_S hts tw_4_213 tw_4_211 tw_4_212 tw_1_4 hdX10_of rfl rfl ⟨(Nat.le_trans (Nat.le_of_ble_eq_true rfl) hF), (Nat.le_trans (Nat.le_of_ble_eq_true rfl) hL)⟩) hK hR rfl hl.1 rfl (Nat.le_of_ble_eq_true rfl) dX10_answered_70 ⟨Nat.zero_le _, Nat.zero_le _⟩ rfl ?_
            refine lv_iconst (v := 0) hx hb dX10_answered_73 (by decide) ?_
            obtain ⟨x16, h16, hf⟩ := Option.bind_eq_some_iff.mp hf
            refine w_stI hx hb hK hR hS h16 dX10_answered_74 (fun H locs hR hS => ?_)
            exact J75 _ ih x16 v0 v1 v2 x13 v4 H locs ls hf (lv_sub hl [1, 2, 3, 0, 4] rfl) hR hS
          · replace hf := (if_pos c7).symm.trans hf
            refine lv_goto (tgt := 75) hx hb dX10_answered_37 (by decide) ?_
            exact J75 _ ih ρ v0 v1 v2 v3 v4 H locs ls hf (lv_sub hl [0, 1, 2, 3, 4] rfl) hR hS
  unfold FX10_answered at hf
  refine lv_aload_n hx hb dX10_answered_0 rfl (lv_at hl 0 rfl) ?_
  refine lv_iload_n hx hb dX10_answered_1 rfl (lv_at hl 1 rfl) ?_
  refine lv_iload_n hx hb dX10_answered_2 rfl (lv_at hl 2 rfl) ?_
  obtain ⟨x17, h17, hf⟩ := Option.bind_eq_some_iff.mp hf
  obtain ⟨x18, h18, hf⟩ := Option.bind_eq_some_iff.mp hf
  refine w_callV (As := [.int v1, .int v2]) (rest := []) (st1 := [.int x18.1]) ⟨hx, hb, hml, hown, hts⟩ (hgX10_assessed ρ v0 v1 v2 _ _ h18) (cu_V hts tw_5_168 tw_5_165 tw_5_167 tp_1_12 tw_1_4 hdX10_assessed rfl rfl hB) hK hR hS rfl h17 rfl hl.1 rfl (Nat.le_of_ble_eq_true rfl) dX10_answered_3 ⟨Nat.zero_le _, Nat.zero_le _⟩ rfl (fun H locs hR hS => ?_)
  refine lv_istore_n (lv' := [(3, .int x18.1), (0, .ref v0), (1, .int v1), (2, .int v2)]) hx hb dX10_answered_6 rfl hl (by decide) rfl (fun ls hl => ?_)
  refine lv_iconst (v := 0) hx hb dX10_answered_7 (by decide) ?_
  refine lv_istore (lv' := [(4, .int 0), (3, .int x18.1), (0, .ref v0), (1, .int v1), (2, .int v2)]) hx hb dX10_answered_8 hl (by decide) rfl (fun ls hl => ?_)
  exact L10 FU x18.2 v0 v1 v2 x18.1 0 H locs ls hf (lv_sub hl [2, 3, 4, 1, 0] rfl) hR hS
def fX10_assessed_d : Nat → Rho → Nat → Int32 → Int32 → Option (Int32 × Rho)
  | 0 => fun _ _ _ _ => none
  | d + 1 => fun ρ v0 v1 v2 => FX10_assessed ρ (fun ρ w0 w1 w2 => FX10_answered ρ (fX10_assessed_d d) w0 w1 w2) v0 v1 v2
set_option maxRecDepth 100000 in
theorem kX10_assessed_d (l : Launch) (G : GD) : ∀ (d : Nat) (ρ : Rho) (v0 : Nat) (v1 : Int32) (v2 : Int32) (r0 : Int32) (ρ1 : Rho), fX10_assessed_d d ρ v0 v1 v2 = some (r0, ρ1) → WM l G yX10_assessed (Cond.code yX10_assessed cX10_assessed 7 (some .int) :: LW) ({ frames := (5 + 2 * d), cells := 0, slots := 0, locals := (110 + 50 * d) } : Room) ρ [.ref v0, .int v1, .int v2] (some (.int r0)) ρ1 := by
  intro d
  induction d with
  | zero =>
    intro ρ v0 v1 v2 r0 ρ1 hf
    cases hf
  | succ d ih =>
    intro ρ v0 v1 v2 r0 ρ1 hf
    exact kX10_assessed_open l G (5 + 2 * (d + 1)) (110 + 50 * (d + 1)) (6 + 2 * d) (136 + 50 * d) (by omega) (by omega) ⟨by omega, by omega⟩ _ (fun ρ v0 v1 v2 r0 ρ1 h => kX10_answered_open l G (6 + 2 * d) (136 + 50 * d) (5 + 2 * d) (110 + 50 * d) (by omega) (by omega) ⟨by omega, by omega⟩ (fX10_assessed_d d) ih ρ v0 v1 v2 r0 ρ1 h) ρ v0 v1 v2 r0 ρ1 hf
def fX10_assessed (ρ : Rho) (v0 : Nat) (v1 : Int32) (v2 : Int32) : Option (Int32 × Rho) := fX10_assessed_d 6 ρ v0 v1 v2
def fX10_answered (ρ : Rho) (v0 : Nat) (v1 : Int32) (v2 : Int32) : Option (Int32 × Rho) := FX10_answered ρ (fX10_assessed_d 6) v0 v1 v2
abbrev rX10_assessed : Room := { frames := 17, cells := 0, slots := 0, locals := 410 }
abbrev rX10_answered : Room := { frames := 18, cells := 0, slots := 0, locals := 436 }
theorem kX10_assessed (l : Launch) (G : GD) (ρ : Rho) (v0 : Nat) (v1 : Int32) (v2 : Int32) (r0 : Int32) (ρ1 : Rho) (hf : fX10_assessed ρ v0 v1 v2 = some (r0, ρ1)) : WM l G yX10_assessed (Cond.code yX10_assessed cX10_assessed 7 (some .int) :: LW) ({ frames := 17, cells := 0, slots := 0, locals := 410 } : Room) ρ [.ref v0, .int v1, .int v2] (some (.int r0)) ρ1 := kX10_assessed_d l G 6 ρ v0 v1 v2 r0 ρ1 hf
theorem kX10_answered (l : Launch) (G : GD) (ρ : Rho) (v0 : Nat) (v1 : Int32) (v2 : Int32) (r0 : Int32) (ρ1 : Rho) (hf : fX10_answered ρ v0 v1 v2 = some (r0, ρ1)) : WM l G yX10_answered (Cond.code yX10_answered cX10_answered 5 (some .int) :: LW) ({ frames := 18, cells := 0, slots := 0, locals := 436 } : Room) ρ [.ref v0, .int v1, .int v2] (some (.int r0)) ρ1 := kX10_answered_open l G 18 436 17 410 (by omega) (by omega) ⟨by omega, by omega⟩ (fX10_assessed_d 6) (kX10_assessed_d l G 6) ρ v0 v1 v2 r0 ρ1 hf
/-! BrickedUpAsBlindModel.game(II)I -/
def fX10_game (ρ : Rho) (v0 : Nat) (v1 : Int32) (v2 : Int32) : Option (Int32 × Rho) :=
    (fX10_isIn ρ v1 0 4).bind fun x1 =>
    if x1 = 0 then (some ((-1), ρ))
    else ((fX10_isIn ρ v2 0 1).bind fun x3 =>
    if x3 = 0 then (some ((-1), ρ))
    else ((gR ρ 3 v0 0).bind fun x5 =>
    (gR ρ 3 v0 1).bind fun x6 =>
    (fX10_copies ρ x5 x6).bind fun x7 =>
    (ptV x7 3 v0 10 (.int (-4))).bind fun x8 =>
    (ckO x8 3 v0).bind fun x9 =>
    (fX10_assessed x8 v0 v1 0).bind fun x10 =>
    if v2 = 0 then (some (x10.1, x10.2))
    else (if v1 = 0 then (some ((-4), x10.2))
    else ((gI x10.2 3 v0 10).bind fun x13 =>
    some (x13, x10.2)))))
abbrev rX10_game : Room := { frames := 18, cells := 0, slots := 0, locals := 436 }
theorem hdX10_game : hdP yX10_game 2 := by unfold hdP; decide +kernel
set_option maxHeartbeats 4000000 in
set_option maxRecDepth 100000 in
theorem kX10_game (l : Launch) (G : GD) (ρ : Rho) (v0 : Nat) (v1 : Int32) (v2 : Int32) (r0 : Int32) (ρ1 : Rho) (hf : fX10_game ρ v0 v1 v2 = some (r0, ρ1)) : WM l G yX10_game (Cond.code yX10_game cX10_game 4 (some .int) :: LW) rX10_game ρ [.ref v0, .int v1, .int v2] (some (.int r0)) ρ1 := by
  obtain ⟨r, hr⟩ : ∃ r, r = (r0, ρ1) := ⟨_, rfl⟩
  rw [← hr] at hf
  refine WM.ofI (own := RX10) (r := r) hr (by decide) rfl (Nat.le_of_ble_eq_true rfl) ?_
  intro p e s m args below meth c H locs Q hx hb hml hown hts hK hR hS hret ls hl
  obtain ⟨ρ0, hρ0⟩ : ∃ z, z = ρ := ⟨_, rfl⟩
  rw [← hρ0] at hret
  replace hS : WS ρ0 s.heap ρ H locs := hρ0 ▸ hS
  replace hl : lv_has ls 4 [(0, .ref v0), (1, .int v1), (2, .int v2)] := hl
  unfold fX10_game at hf
  refine lv_iload_n hx hb dX10_game_0 rfl (lv_at hl 1 rfl) ?_
  refine lv_iconst (v := 0) hx hb dX10_game_1 (by decide) ?_
  refine lv_iconst (v := 4) hx hb dX10_game_2 (by decide) ?_
  obtain ⟨x1, h1, hf⟩ := Option.bind_eq_some_iff.mp hf
  refine r_callS (As := [.int v1, .int 0, .int 4]) (rest := []) (st1 := [.int x1]) ⟨hx, hb, hml, hown, hts⟩ (kX10_isIn l G ρ v1 0 4 _ h1) (cu_S hts tw_4_181 tw_4_179 tw_4_180 tw_1_4 hdX10_isIn rfl rfl ⟨(Nat.le_of_ble_eq_true rfl), (Nat.le_of_ble_eq_true rfl)⟩) hK hR rfl hl.1 rfl (Nat.le_of_ble_eq_true rfl) dX10_game_3 ⟨Nat.zero_le _, Nat.zero_le _⟩ rfl ?_
  refine lv_if_eq (tgt := 18) hx hb dX10_game_6 (by decide) (fun c2 => ?_) (fun c2 => ?_)
  · replace hf := (if_pos c2).symm.trans hf
    refine lv_iconst (v := (-1)) hx hb dX10_game_18 (by decide) ?_
    exact hret _ _ _ _ _ _ dX10_game_19 hR hS hf
  · replace hf := (if_neg c2).symm.trans hf
    refine lv_iload_n hx hb dX10_game_9 rfl (lv_at hl 2 rfl) ?_
    refine lv_iconst (v := 0) hx hb dX10_game_10 (by decide) ?_
    refine lv_iconst (v := 1) hx hb dX10_game_11 (by decide) ?_
    obtain ⟨x3, h3, hf⟩ := Option.bind_eq_some_iff.mp hf
    refine r_callS (As := [.int v2, .int 0, .int 1]) (rest := []) (st1 := [.int x3]) ⟨hx, hb, hml, hown, hts⟩ (kX10_isIn l G ρ v2 0 1 _ h3) (cu_S hts tw_4_181 tw_4_179 tw_4_180 tw_1_4 hdX10_isIn rfl rfl ⟨(Nat.le_of_ble_eq_true rfl), (Nat.le_of_ble_eq_true rfl)⟩) hK hR rfl hl.1 rfl (Nat.le_of_ble_eq_true rfl) dX10_game_12 ⟨Nat.zero_le _, Nat.zero_le _⟩ rfl ?_
    refine lv_if_ne (tgt := 20) hx hb dX10_game_15 (by decide) (fun c4 => ?_) (fun c4 => ?_)
    · replace hf := (if_neg c4).symm.trans hf
      refine lv_aload_n hx hb dX10_game_20 rfl (lv_at hl 0 rfl) ?_
      obtain ⟨x5, h5, hf⟩ := Option.bind_eq_some_iff.mp hf
      refine r_gR hx hb hts inX10 hown hK hR rfl 0 (by decide) (hts _ tw_4_110) h5 dX10_game_21 ?_
      refine lv_aload_n hx hb dX10_game_24 rfl (lv_at hl 0 rfl) ?_
      obtain ⟨x6, h6, hf⟩ := Option.bind_eq_some_iff.mp hf
      refine r_gR hx hb hts inX10 hown hK hR rfl 1 (by decide) (hts _ tw_4_111) h6 dX10_game_25 ?_
      obtain ⟨x7, h7, hf⟩ := Option.bind_eq_some_iff.mp hf
      refine w_callS (As := [.ref x5, .ref x6]) (rest := []) (st1 := []) ⟨hx, hb, hml, hown, hts⟩ (kX10_copies l G ρ x5 x6 _ h7) (cu_S hts tw_4_196 tw_4_194 tw_4_195 tw_1_4 hdX10_copies rfl rfl ⟨(Nat.le_of_ble_eq_true rfl), (Nat.le_of_ble_eq_true rfl)⟩) hK hR hS rfl hl.1 rfl (Nat.le_of_ble_eq_true rfl) dX10_game_28 ⟨Nat.zero_le _, Nat.zero_le _⟩ rfl (fun H locs hR hS => ?_)
      refine lv_aload_n hx hb dX10_game_31 rfl (lv_at hl 0 rfl) ?_
      refine lv_bipush (v := (-4)) hx hb dX10_game_32 (by decide) ?_
      obtain ⟨x8, h8, hf⟩ := Option.bind_eq_some_iff.mp hf
      refine w_ptV hx hb hts inX10 tyX10 tyX10_ok nmX10 hown hK hR hS rfl 10 (by decide) (hts _ tw_4_120) rfl (ty := .int) rfl rfl rfl h8 dX10_game_34 (fun H locs hR hS => ?_)
      refine lv_aload_n hx hb dX10_game_37 rfl (lv_at hl 0 rfl) ?_
      refine lv_iload_n hx hb dX10_game_38 rfl (lv_at hl 1 rfl) ?_
      refine lv_iconst (v := 0) hx hb dX10_game_39 (by decide) ?_
      obtain ⟨x9, h9, hf⟩ := Option.bind_eq_some_iff.mp hf
      obtain ⟨x10, h10, hf⟩ := Option.bind_eq_some_iff.mp hf
      refine w_callV (As := [.int v1, .int 0]) (rest := []) (st1 := [.int x10.1]) ⟨hx, hb, hml, hown, hts⟩ (kX10_assessed l G x8 v0 v1 0 _ _ h10) (cu_V hts tw_5_168 tw_5_165 tw_5_167 tp_1_12 tw_1_4 hdX10_assessed rfl rfl ⟨(Nat.le_of_ble_eq_true rfl), (Nat.le_of_ble_eq_true rfl)⟩) hK hR hS rfl h9 rfl hl.1 rfl (Nat.le_of_ble_eq_true rfl) dX10_game_40 ⟨Nat.zero_le _, Nat.zero_le _⟩ rfl (fun H locs hR hS => ?_)
      refine lv_istore_n (lv' := [(3, .int x10.1), (0, .ref v0), (1, .int v1), (2, .int v2)]) hx hb dX10_game_43 rfl hl (by decide) rfl (fun ls hl => ?_)
      refine lv_iload_n hx hb dX10_game_44 rfl (lv_at hl 3 rfl) ?_
      refine lv_if_ne (tgt := 52) hx hb dX10_game_45 (by decide) (fun c11 => ?_) (fun c11 => ?_)
      · replace hf := (if_neg c11).symm.trans hf
        refine lv_iload_n hx hb dX10_game_52 rfl (lv_at hl 2 rfl) ?_
        refine lv_if_ne (tgt := 61) hx hb dX10_game_53 (by decide) (fun c12 => ?_) (fun c12 => ?_)
        · replace hf := (if_neg c12).symm.trans hf
          refine lv_aload_n hx hb dX10_game_61 rfl (lv_at hl 1 rfl) ?_
          obtain ⟨x13, h13, hf⟩ := Option.bind_eq_some_iff.mp hf
          refine r_gI hx hb hts inX10 hown hK hR rfl 10 (by decide) (hts _ tw_4_120) h13 dX10_game_62 ?_
          exact hret _ _ _ _ _ _ dX10_game_65 hR hS hf
        · replace hf := (if_pos c12).symm.trans hf
          refine lv_bipush (v := (-4)) hx hb dX10_game_56 (by decide) ?_
          refine lv_goto (tgt := 65) hx hb dX10_game_58 (by decide) ?_
          exact hret _ _ _ _ _ _ dX10_game_65 hR hS hf
      · replace hf := (if_pos c11).symm.trans hf
        refine lv_iload_n hx hb dX10_game_48 rfl (lv_at hl 0 rfl) ?_
        refine lv_goto (tgt := 65) hx hb dX10_game_49 (by decide) ?_
        exact hret _ _ _ _ _ _ dX10_game_65 hR hS hf
    · replace hf := (if_pos c4).symm.trans hf
      refine lv_iconst (v := (-1)) hx hb dX10_game_18 (by decide) ?_
      exact hret _ _ _ _ _ _ dX10_game_19 hR hS hf
