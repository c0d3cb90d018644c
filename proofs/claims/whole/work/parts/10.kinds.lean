/-! BrickedUpAsBlind.Kinds.isKind(I)Z -/
def fX1_isKind (ρ : Rho) (v0 : Int32) : Option Int32 :=
    if v0 < 0 then (nb 0)
    else (if (8 : Int32) ≤ v0 then (nb 0)
    else (nb 1))
abbrev rX1_isKind : Room := { frames := 0, cells := 0, slots := 0, locals := 0 }
theorem hdX1_isKind : hdP yX1_isKind 1 := by unfold hdP; decide +kernel
set_option maxHeartbeats 4000000 in
set_option maxRecDepth 100000 in
theorem kX1_isKind (l : Launch) (G : GD) (ρ : Rho) (v0 : Int32) (r : Int32) (hf : fX1_isKind ρ v0 = some r) : RM l G yX1_isKind (Cond.code yX1_isKind cX1_isKind 1 (some .boolean) :: LW) rX1_isKind ρ [.int v0] (some (.int r)) := by
  refine RM.ofZ (own := RX1) (by decide) rfl (Nat.le_of_ble_eq_true rfl) ?_
  intro p e s m args below meth c H locs Q hx hb hml hown hts hK hR hret ls hl
  replace hl : lv_has ls 1 [(0, .int v0)] := hl
  unfold fX1_isKind at hf
  refine lv_iload_n hx hb dX1_isKind_0 rfl (lv_at hl 0 rfl) ?_
  refine lv_if_lt (tgt := 14) hx hb dX1_isKind_1 (by decide) (fun c1 => ?_) (fun c1 => ?_)
  · replace hf := (if_pos c1).symm.trans hf
    refine lv_iconst (v := 0) hx hb dX1_isKind_14 (by decide) ?_
    exact hret _ _ _ dX1_isKind_15 hf
  · replace hf := (if_neg c1).symm.trans hf
    refine lv_iload_n hx hb dX1_isKind_4 rfl (lv_at hl 0 rfl) ?_
    refine lv_bipush (v := 8) hx hb dX1_isKind_5 (by decide) ?_
    refine lv_icmp_ge (tgt := 14) hx hb dX1_isKind_7 (by decide) (fun c2 => ?_) (fun c2 => ?_)
    · replace hf := (if_pos c2).symm.trans hf
      refine lv_iconst (v := 0) hx hb dX1_isKind_14 (by decide) ?_
      exact hret _ _ _ dX1_isKind_15 hf
    · replace hf := (if_neg c2).symm.trans hf
      refine lv_iconst (v := 1) hx hb dX1_isKind_10 (by decide) ?_
      refine lv_goto (tgt := 15) hx hb dX1_isKind_11 (by decide) ?_
      exact hret _ _ _ dX1_isKind_15 hf
/-! BrickedUpAsBlind.Kinds.isFigure(I)Z -/
def fX1_isFigure (ρ : Rho) (v0 : Int32) : Option Int32 :=
    if v0 < 0 then (nb 0)
    else (if (9 : Int32) < v0 then (nb 0)
    else (nb 1))
abbrev rX1_isFigure : Room := { frames := 0, cells := 0, slots := 0, locals := 0 }
theorem hdX1_isFigure : hdP yX1_isFigure 1 := by unfold hdP; decide +kernel
set_option maxHeartbeats 4000000 in
set_option maxRecDepth 100000 in
theorem kX1_isFigure (l : Launch) (G : GD) (ρ : Rho) (v0 : Int32) (r : Int32) (hf : fX1_isFigure ρ v0 = some r) : RM l G yX1_isFigure (Cond.code yX1_isFigure cX1_isFigure 1 (some .boolean) :: LW) rX1_isFigure ρ [.int v0] (some (.int r)) := by
  refine RM.ofZ (own := RX1) (by decide) rfl (Nat.le_of_ble_eq_true rfl) ?_
  intro p e s m args below meth c H locs Q hx hb hml hown hts hK hR hret ls hl
  replace hl : lv_has ls 1 [(0, .int v0)] := hl
  unfold fX1_isFigure at hf
  refine lv_iload_n hx hb dX1_isFigure_0 rfl (lv_at hl 0 rfl) ?_
  refine lv_if_lt (tgt := 14) hx hb dX1_isFigure_1 (by decide) (fun c1 => ?_) (fun c1 => ?_)
  · replace hf := (if_pos c1).symm.trans hf
    refine lv_iconst (v := 0) hx hb dX1_isFigure_14 (by decide) ?_
    exact hret _ _ _ dX1_isFigure_15 hf
  · replace hf := (if_neg c1).symm.trans hf
    refine lv_iload_n hx hb dX1_isFigure_4 rfl (lv_at hl 0 rfl) ?_
    refine lv_bipush (v := 9) hx hb dX1_isFigure_5 (by decide) ?_
    refine lv_icmp_gt (tgt := 14) hx hb dX1_isFigure_7 (by decide) (fun c2 => ?_) (fun c2 => ?_)
    · replace hf := (if_pos c2).symm.trans hf
      refine lv_iconst (v := 0) hx hb dX1_isFigure_14 (by decide) ?_
      exact hret _ _ _ dX1_isFigure_15 hf
    · replace hf := (if_neg c2).symm.trans hf
      refine lv_iconst (v := 1) hx hb dX1_isFigure_10 (by decide) ?_
      refine lv_goto (tgt := 15) hx hb dX1_isFigure_11 (by decide) ?_
      exact hret _ _ _ dX1_isFigure_15 hf
/-! BrickedUpAsBlind.Kinds.due(II)I -/
def fX1_due (ρ : Rho) (v0 : Int32) (v1 : Int32) : Option Int32 :=
    if v0 = (0 : Int32) then (some ((2 : Int32) + v1))
    else (if v0 = (2 : Int32) then (some 0)
    else (if v0 = (3 : Int32) then (some ((1 : Int32) + v1))
    else (if v0 = (5 : Int32) then (some (((2 : Int32) + v1) - 1))
    else (if v0 = (7 : Int32) then (some ((2 : Int32) * (((2 : Int32) + v1) - 1)))
    else (some 1)))))
abbrev rX1_due : Room := { frames := 0, cells := 0, slots := 0, locals := 0 }
theorem hdX1_due : hdP yX1_due 2 := by unfold hdP; decide +kernel
set_option maxHeartbeats 4000000 in
set_option maxRecDepth 100000 in
theorem kX1_due (l : Launch) (G : GD) (ρ : Rho) (v0 : Int32) (v1 : Int32) (r : Int32) (hf : fX1_due ρ v0 v1 = some r) : RM l G yX1_due (Cond.code yX1_due cX1_due 4 (some .int) :: LW) rX1_due ρ [.int v0, .int v1] (some (.int r)) := by
  refine RM.ofI (own := RX1) (by decide) rfl (Nat.le_of_ble_eq_true rfl) ?_
  intro p e s m args below meth c H locs Q hx hb hml hown hts hK hR hret ls hl
  replace hl : lv_has ls 4 [(0, .int v0), (1, .int v1)] := hl
  unfold fX1_due at hf
  refine lv_iconst (v := 2) hx hb dX1_due_0 (by decide) ?_
  refine lv_iload_n hx hb dX1_due_1 rfl (lv_at hl 1 rfl) ?_
  refine lv_iadd hx hb dX1_due_2 ?_
  refine lv_istore_n (lv' := [(2, .int ((2 : Int32) + v1)), (0, .int v0), (1, .int v1)]) hx hb dX1_due_3 rfl hl (by decide) rfl (fun ls hl => ?_)
  refine lv_iload_n hx hb dX1_due_4 rfl (lv_at hl 0 rfl) ?_
  refine lv_iconst (v := 1) hx hb dX1_due_5 (by decide) ?_
  refine lv_isub hx hb dX1_due_6 ?_
  refine lv_istore_n (lv' := [(3, .int (((2 : Int32) + v1) - 1)), (2, .int ((2 : Int32) + v1)), (0, .int v0), (1, .int v1)]) hx hb dX1_due_7 rfl hl (by decide) rfl (fun ls hl => ?_)
  refine lv_iload_n hx hb dX1_due_8 rfl (lv_at hl 2 rfl) ?_
  by_cases c1 : v0 = (0 : Int32)
  · replace hf := (if_pos c1).symm.trans hf
    refine lv_tableIn (tgt := 56) hx hb dX1_due_9 (by rw [c1]; decide) (by rw [c1]; decide) (by rw [c1]; rfl) (by decide) ?_
    refine lv_iload_n hx hb dX1_due_56 rfl (lv_at hl 1 rfl) ?_
    exact hret _ _ _ dX1_due_57 hf
  · replace hf := (if_neg c1).symm.trans hf
    by_cases c2 : v0 = (2 : Int32)
    · replace hf := (if_pos c2).symm.trans hf
      refine lv_tableIn (tgt := 58) hx hb dX1_due_9 (by rw [c2]; decide) (by rw [c2]; decide) (by rw [c2]; rfl) (by decide) ?_
      refine lv_iconst (v := 0) hx hb dX1_due_58 (by decide) ?_
      exact hret _ _ _ dX1_due_59 hf
    · replace hf := (if_neg c2).symm.trans hf
      by_cases c3 : v0 = (3 : Int32)
      · replace hf := (if_pos c3).symm.trans hf
        refine lv_tableIn (tgt := 60) hx hb dX1_due_9 (by rw [c3]; decide) (by rw [c3]; decide) (by rw [c3]; rfl) (by decide) ?_
        refine lv_iconst (v := 1) hx hb dX1_due_60 (by decide) ?_
        refine lv_iload_n hx hb dX1_due_61 rfl (lv_at hl 3 rfl) ?_
        refine lv_iadd hx hb dX1_due_62 ?_
        exact hret _ _ _ dX1_due_63 hf
      · replace hf := (if_neg c3).symm.trans hf
        by_cases c4 : v0 = (5 : Int32)
        · replace hf := (if_pos c4).symm.trans hf
          refine lv_tableIn (tgt := 64) hx hb dX1_due_9 (by rw [c4]; decide) (by rw [c4]; decide) (by rw [c4]; rfl) (by decide) ?_
          refine lv_iload_n hx hb dX1_due_64 rfl (lv_at hl 0 rfl) ?_
          exact hret _ _ _ dX1_due_65 hf
        · replace hf := (if_neg c4).symm.trans hf
          by_cases c5 : v0 = (7 : Int32)
          · replace hf := (if_pos c5).symm.trans hf
            refine lv_tableIn (tgt := 66) hx hb dX1_due_9 (by rw [c5]; decide) (by rw [c5]; decide) (by rw [c5]; rfl) (by decide) ?_
            refine lv_iconst (v := 2) hx hb dX1_due_66 (by decide) ?_
            refine lv_iload_n hx hb dX1_due_67 rfl (lv_at hl 0 rfl) ?_
            refine lv_imul hx hb dX1_due_68 ?_
            exact hret _ _ _ dX1_due_69 hf
          · replace hf := (if_neg c5).symm.trans hf
            refine r_tabD (tgt := 70) hx hb dX1_due_9 rfl (fun j hj => ?_) (by decide) ?_
            · replace hj : j < 8 := hj
              rcases (show j = 0 ∨ j = 1 ∨ j = 2 ∨ j = 3 ∨ j = 4 ∨ j = 5 ∨ j = 6 ∨ j = 7 by omega) with rfl | rfl | rfl | rfl | rfl | rfl | rfl | rfl
              · exact Or.inr (lv_neT c1 rfl)
              · exact Or.inl rfl
              · exact Or.inr (lv_neT c2 rfl)
              · exact Or.inr (lv_neT c3 rfl)
              · exact Or.inl rfl
              · exact Or.inr (lv_neT c4 rfl)
              · exact Or.inl rfl
              · exact Or.inr (lv_neT c5 rfl)
            refine lv_iconst (v := 1) hx hb dX1_due_70 (by decide) ?_
            exact hret _ _ _ dX1_due_71 hf
/-! BrickedUpAsBlind.Kinds.apart(II)I -/
def fX1_apart_14 (ρ : Rho) (t0 : Int32) : Option Int32 :=
    if (12 : Int32) < t0 then (some ((24 : Int32) - t0))
    else (some t0)
def fX1_apart (ρ : Rho) (v0 : Int32) (v1 : Int32) : Option Int32 :=
    if v1 ≤ v0 then (fX1_apart_14 ρ (v0 - v1))
    else (fX1_apart_14 ρ (v1 - v0))
abbrev rX1_apart : Room := { frames := 0, cells := 0, slots := 0, locals := 0 }
theorem hdX1_apart : hdP yX1_apart 2 := by unfold hdP; decide +kernel
set_option maxHeartbeats 4000000 in
set_option maxRecDepth 100000 in
theorem kX1_apart (l : Launch) (G : GD) (ρ : Rho) (v0 : Int32) (v1 : Int32) (r : Int32) (hf : fX1_apart ρ v0 v1 = some r) : RM l G yX1_apart (Cond.code yX1_apart cX1_apart 3 (some .int) :: LW) rX1_apart ρ [.int v0, .int v1] (some (.int r)) := by
  refine RM.ofI (own := RX1) (by decide) rfl (Nat.le_of_ble_eq_true rfl) ?_
  intro p e s m args below meth c H locs Q hx hb hml hown hts hK hR hret ls hl
  replace hl : lv_has ls 3 [(0, .int v0), (1, .int v1)] := hl
  have J14 : ∀ (t0 : Int32) (ls : Array Slot), fX1_apart_14 ρ t0 = some r → lv_has ls 3 [] → W p l e rX1_apart s m args below meth c H locs 0 0 Q (F0 m 14 ls [.int t0]) := by
    intro t0 ls hf hl
    rw [fX1_apart_14] at hf
    refine lv_istore_n (lv' := [(2, .int t0)]) hx hb dX1_apart_14 rfl hl (by decide) rfl (fun ls hl => ?_)
    refine lv_iload_n hx hb dX1_apart_15 rfl (lv_at hl 0 rfl) ?_
    refine lv_bipush (v := 12) hx hb dX1_apart_16 (by decide) ?_
    refine lv_icmp_gt (tgt := 25) hx hb dX1_apart_18 (by decide) (fun c1 => ?_) (fun c1 => ?_)
    · replace hf := (if_pos c1).symm.trans hf
      refine lv_bipush (v := 24) hx hb dX1_apart_25 (by decide) ?_
      refine lv_iload_n hx hb dX1_apart_27 rfl (lv_at hl 0 rfl) ?_
      refine lv_isub hx hb dX1_apart_28 ?_
      exact hret _ _ _ dX1_apart_29 hf
    · replace hf := (if_neg c1).symm.trans hf
      refine lv_iload_n hx hb dX1_apart_21 rfl (lv_at hl 0 rfl) ?_
      refine lv_goto (tgt := 29) hx hb dX1_apart_22 (by decide) ?_
      exact hret _ _ _ dX1_apart_29 hf
  unfold fX1_apart at hf
  refine lv_iload_n hx hb dX1_apart_0 rfl (lv_at hl 0 rfl) ?_
  refine lv_iload_n hx hb dX1_apart_1 rfl (lv_at hl 1 rfl) ?_
  refine lv_icmp_ge (tgt := 11) hx hb dX1_apart_2 (by decide) (fun c2 => ?_) (fun c2 => ?_)
  · replace hf := (if_pos c2).symm.trans hf
    refine lv_iload_n hx hb dX1_apart_11 rfl (lv_at hl 0 rfl) ?_
    refine lv_iload_n hx hb dX1_apart_12 rfl (lv_at hl 1 rfl) ?_
    refine lv_isub hx hb dX1_apart_13 ?_
    exact J14 (v0 - v1) ls hf (lv_sub hl [] rfl)
  · replace hf := (if_neg c2).symm.trans hf
    refine lv_iload_n hx hb dX1_apart_5 rfl (lv_at hl 1 rfl) ?_
    refine lv_iload_n hx hb dX1_apart_6 rfl (lv_at hl 0 rfl) ?_
    refine lv_isub hx hb dX1_apart_7 ?_
    refine lv_goto (tgt := 14) hx hb dX1_apart_8 (by decide) ?_
    exact J14 (v1 - v0) ls hf (lv_sub hl [] rfl)
/-! BrickedUpAsBlind.Kinds.moves(IIII)Z -/
def fX1_moves (ρ : Rho) (v0 : Int32) (v1 : Int32) (v2 : Int32) (v3 : Int32) : Option Int32 :=
    if v0 = (3 : Int32) then (if (v3 - v3 / 2 * 2) = 0 then (nb 1)
    else (nb 0))
    else (if v0 = (4 : Int32) then (if (1 : Int32) < v2 then (nb 0)
    else (nb 1))
    else (if v0 = (6 : Int32) then (if v2 = 0 then (nb 1)
    else (nb 0))
    else (if v0 = (7 : Int32) then (if v1 < 0 then (nb 0)
    else ((rm v3 (v1 + 1)).bind fun x9 =>
    if x9 = 0 then (nb 1)
    else (nb 0)))
    else (nb 0))))
abbrev rX1_moves : Room := { frames := 0, cells := 0, slots := 0, locals := 0 }
theorem hdX1_moves : hdP yX1_moves 4 := by unfold hdP; decide +kernel
set_option maxHeartbeats 4000000 in
set_option maxRecDepth 100000 in
theorem kX1_moves (l : Launch) (G : GD) (ρ : Rho) (v0 : Int32) (v1 : Int32) (v2 : Int32) (v3 : Int32) (r : Int32) (hf : fX1_moves ρ v0 v1 v2 v3 = some r) : RM l G yX1_moves (Cond.code yX1_moves cX1_moves 4 (some .boolean) :: LW) rX1_moves ρ [.int v0, .int v1, .int v2, .int v3] (some (.int r)) := by
  refine RM.ofZ (own := RX1) (by decide) rfl (Nat.le_of_ble_eq_true rfl) ?_
  intro p e s m args below meth c H locs Q hx hb hml hown hts hK hR hret ls hl
  replace hl : lv_has ls 4 [(0, .int v0), (1, .int v1), (2, .int v2), (3, .int v3)] := hl
  unfold fX1_moves at hf
  refine lv_iload_n hx hb dX1_moves_0 rfl (lv_at hl 0 rfl) ?_
  by_cases c1 : v0 = (3 : Int32)
  · replace hf := (if_pos c1).symm.trans hf
    refine lv_tableIn (tgt := 36) hx hb dX1_moves_1 (by rw [c1]; decide) (by rw [c1]; decide) (by rw [c1]; rfl) (by decide) ?_
    refine lv_iload_n hx hb dX1_moves_36 rfl (lv_at hl 3 rfl) ?_
    refine lv_iconst (v := 2) hx hb dX1_moves_37 (by decide) ?_
    refine lv_irem hx hb dX1_moves_38 (by decide) ?_
    refine lv_if_ne (tgt := 46) hx hb dX1_moves_39 (by decide) (fun c2 => ?_) (fun c2 => ?_)
    · replace hf := (if_neg c2).symm.trans hf
      refine lv_iconst (v := 0) hx hb dX1_moves_46 (by decide) ?_
      exact hret _ _ _ dX1_moves_47 hf
    · replace hf := (if_pos c2).symm.trans hf
      refine lv_iconst (v := 1) hx hb dX1_moves_42 (by decide) ?_
      refine lv_goto (tgt := 47) hx hb dX1_moves_43 (by decide) ?_
      exact hret _ _ _ dX1_moves_47 hf
  · replace hf := (if_neg c1).symm.trans hf
    by_cases c3 : v0 = (4 : Int32)
    · replace hf := (if_pos c3).symm.trans hf
      refine lv_tableIn (tgt := 48) hx hb dX1_moves_1 (by rw [c3]; decide) (by rw [c3]; decide) (by rw [c3]; rfl) (by decide) ?_
      refine lv_iload_n hx hb dX1_moves_48 rfl (lv_at hl 2 rfl) ?_
      refine lv_iconst (v := 1) hx hb dX1_moves_49 (by decide) ?_
      refine lv_icmp_gt (tgt := 57) hx hb dX1_moves_50 (by decide) (fun c4 => ?_) (fun c4 => ?_)
      · replace hf := (if_pos c4).symm.trans hf
        refine lv_iconst (v := 0) hx hb dX1_moves_57 (by decide) ?_
        exact hret _ _ _ dX1_moves_58 hf
      · replace hf := (if_neg c4).symm.trans hf
        refine lv_iconst (v := 1) hx hb dX1_moves_53 (by decide) ?_
        refine lv_goto (tgt := 58) hx hb dX1_moves_54 (by decide) ?_
        exact hret _ _ _ dX1_moves_58 hf
    · replace hf := (if_neg c3).symm.trans hf
      by_cases c5 : v0 = (6 : Int32)
      · replace hf := (if_pos c5).symm.trans hf
        refine lv_tableIn (tgt := 59) hx hb dX1_moves_1 (by rw [c5]; decide) (by rw [c5]; decide) (by rw [c5]; rfl) (by decide) ?_
        refine lv_iload_n hx hb dX1_moves_59 rfl (lv_at hl 2 rfl) ?_
        refine lv_if_ne (tgt := 67) hx hb dX1_moves_60 (by decide) (fun c6 => ?_) (fun c6 => ?_)
        · replace hf := (if_neg c6).symm.trans hf
          refine lv_iconst (v := 0) hx hb dX1_moves_67 (by decide) ?_
          exact hret _ _ _ dX1_moves_68 hf
        · replace hf := (if_pos c6).symm.trans hf
          refine lv_iconst (v := 1) hx hb dX1_moves_63 (by decide) ?_
          refine lv_goto (tgt := 68) hx hb dX1_moves_64 (by decide) ?_
          exact hret _ _ _ dX1_moves_68 hf
      · replace hf := (if_neg c5).symm.trans hf
        by_cases c7 : v0 = (7 : Int32)
        · replace hf := (if_pos c7).symm.trans hf
          refine lv_tableIn (tgt := 69) hx hb dX1_moves_1 (by rw [c7]; decide) (by rw [c7]; decide) (by rw [c7]; rfl) (by decide) ?_
          refine lv_iload_n hx hb dX1_moves_69 rfl (lv_at hl 1 rfl) ?_
          refine lv_if_lt (tgt := 85) hx hb dX1_moves_70 (by decide) (fun c8 => ?_) (fun c8 => ?_)
          · replace hf := (if_pos c8).symm.trans hf
            refine lv_iconst (v := 0) hx hb dX1_moves_85 (by decide) ?_
            exact hret _ _ _ dX1_moves_86 hf
          · replace hf := (if_neg c8).symm.trans hf
            refine lv_iload_n hx hb dX1_moves_73 rfl (lv_at hl 3 rfl) ?_
            refine lv_iload_n hx hb dX1_moves_74 rfl (lv_at hl 1 rfl) ?_
            refine lv_iconst (v := 1) hx hb dX1_moves_75 (by decide) ?_
            refine lv_iadd hx hb dX1_moves_76 ?_
            obtain ⟨x9, h9, hf⟩ := Option.bind_eq_some_iff.mp hf
            refine r_irem hx hb h9 dX1_moves_77 ?_
            refine lv_if_ne (tgt := 85) hx hb dX1_moves_78 (by decide) (fun c10 => ?_) (fun c10 => ?_)
            · replace hf := (if_neg c10).symm.trans hf
              refine lv_iconst (v := 0) hx hb dX1_moves_85 (by decide) ?_
              exact hret _ _ _ dX1_moves_86 hf
            · replace hf := (if_pos c10).symm.trans hf
              refine lv_iconst (v := 1) hx hb dX1_moves_81 (by decide) ?_
              refine lv_goto (tgt := 86) hx hb dX1_moves_82 (by decide) ?_
              exact hret _ _ _ dX1_moves_86 hf
        · replace hf := (if_neg c7).symm.trans hf
          refine r_tabD (tgt := 87) hx hb dX1_moves_1 rfl (fun j hj => ?_) (by decide) ?_
          · replace hj : j < 5 := hj
            rcases (show j = 0 ∨ j = 1 ∨ j = 2 ∨ j = 3 ∨ j = 4 by omega) with rfl | rfl | rfl | rfl | rfl
            · exact Or.inr (lv_neT c1 rfl)
            · exact Or.inr (lv_neT c3 rfl)
            · exact Or.inl rfl
            · exact Or.inr (lv_neT c5 rfl)
            · exact Or.inr (lv_neT c7 rfl)
          refine lv_iconst (v := 0) hx hb dX1_moves_87 (by decide) ?_
          exact hret _ _ _ dX1_moves_88 hf
/-! BrickedUpAsBlind.Kinds.shine(III)I -/
def fX1_shine_24 (ρ : Rho) (v0 : Int32) (t0 : Int32) : Option Int32 :=
    if v0 = (0 : Int32) then (some t0)
    else (if v0 = (5 : Int32) then (some (t0 / 2))
    else (if v0 = (7 : Int32) then (some ((t0 / 2) + 1))
    else (some 0)))
def fX1_shine (ρ : Rho) (v0 : Int32) (v1 : Int32) (v2 : Int32) : Option Int32 :=
    if (2 : Int32) < v2 then (if v2 < 7 then (fX1_shine_24 ρ v0 v1)
    else (fX1_shine_24 ρ v0 (v1 / 2)))
    else (fX1_shine_24 ρ v0 (v1 + 3))
abbrev rX1_shine : Room := { frames := 0, cells := 0, slots := 0, locals := 0 }
theorem hdX1_shine : hdP yX1_shine 3 := by unfold hdP; decide +kernel
set_option maxHeartbeats 4000000 in
set_option maxRecDepth 100000 in
theorem kX1_shine (l : Launch) (G : GD) (ρ : Rho) (v0 : Int32) (v1 : Int32) (v2 : Int32) (r : Int32) (hf : fX1_shine ρ v0 v1 v2 = some r) : RM l G yX1_shine (Cond.code yX1_shine cX1_shine 4 (some .int) :: LW) rX1_shine ρ [.int v0, .int v1, .int v2] (some (.int r)) := by
  refine RM.ofI (own := RX1) (by decide) rfl (Nat.le_of_ble_eq_true rfl) ?_
  intro p e s m args below meth c H locs Q hx hb hml hown hts hK hR hret ls hl
  replace hl : lv_has ls 4 [(0, .int v0), (1, .int v1), (2, .int v2)] := hl
  have J24 : ∀ (v0 : Int32) (t0 : Int32) (ls : Array Slot), fX1_shine_24 ρ v0 t0 = some r → lv_has ls 4 [(0, .int v0)] → W p l e rX1_shine s m args below meth c H locs 0 0 Q (F0 m 24 ls [.int t0]) := by
    intro v0 t0 ls hf hl
    rw [fX1_shine_24] at hf
    refine lv_istore_n (lv' := [(3, .int t0), (0, .int v0)]) hx hb dX1_shine_24 rfl hl (by decide) rfl (fun ls hl => ?_)
    refine lv_iload_n hx hb dX1_shine_25 rfl (lv_at hl 1 rfl) ?_
    by_cases c1 : v0 = (0 : Int32)
    · replace hf := (if_pos c1).symm.trans hf
      refine lv_lookup (tgt := 60) hx hb dX1_shine_26 (by decide) (by rw [c1] <;> rfl) (by decide) ?_
      refine lv_iload_n hx hb dX1_shine_60 rfl (lv_at hl 0 rfl) ?_
      exact hret _ _ _ dX1_shine_61 hf
    · replace hf := (if_neg c1).symm.trans hf
      by_cases c2 : v0 = (5 : Int32)
      · replace hf := (if_pos c2).symm.trans hf
        refine lv_lookup (tgt := 62) hx hb dX1_shine_26 (by decide) (by rw [c2] <;> rfl) (by decide) ?_
        refine lv_iload_n hx hb dX1_shine_62 rfl (lv_at hl 0 rfl) ?_
        refine lv_iconst (v := 2) hx hb dX1_shine_63 (by decide) ?_
        refine lv_idiv hx hb dX1_shine_64 (by decide) ?_
        exact hret _ _ _ dX1_shine_65 hf
      · replace hf := (if_neg c2).symm.trans hf
        by_cases c3 : v0 = (7 : Int32)
        · replace hf := (if_pos c3).symm.trans hf
          refine lv_lookup (tgt := 66) hx hb dX1_shine_26 (by decide) (by rw [c3] <;> rfl) (by decide) ?_
          refine lv_iload_n hx hb dX1_shine_66 rfl (lv_at hl 0 rfl) ?_
          refine lv_iconst (v := 2) hx hb dX1_shine_67 (by decide) ?_
          refine lv_idiv hx hb dX1_shine_68 (by decide) ?_
          refine lv_iconst (v := 1) hx hb dX1_shine_69 (by decide) ?_
          refine lv_iadd hx hb dX1_shine_70 ?_
          exact hret _ _ _ dX1_shine_71 hf
        · replace hf := (if_neg c3).symm.trans hf
          refine r_lookD (tgt := 72) hx hb dX1_shine_26 (by decide) ((lv_osw c1 rfl).trans ((lv_osw c2 rfl).trans ((lv_osw c3 rfl).trans rfl))) (by decide) ?_
          refine lv_iconst (v := 0) hx hb dX1_shine_72 (by decide) ?_
          exact hret _ _ _ dX1_shine_73 hf
  unfold fX1_shine at hf
  refine lv_iload_n hx hb dX1_shine_0 rfl (lv_at hl 2 rfl) ?_
  refine lv_iconst (v := 2) hx hb dX1_shine_1 (by decide) ?_
  refine lv_icmp_gt (tgt := 11) hx hb dX1_shine_2 (by decide) (fun c4 => ?_) (fun c4 => ?_)
  · replace hf := (if_pos c4).symm.trans hf
    refine lv_iload_n hx hb dX1_shine_11 rfl (lv_at hl 2 rfl) ?_
    refine lv_bipush (v := 7) hx hb dX1_shine_12 (by decide) ?_
    refine lv_icmp_lt (tgt := 23) hx hb dX1_shine_14 (by decide) (fun c5 => ?_) (fun c5 => ?_)
    · replace hf := (if_pos c5).symm.trans hf
      refine lv_iload_n hx hb dX1_shine_23 rfl (lv_at hl 1 rfl) ?_
      exact J24 v0 v1 ls hf (lv_sub hl [0] rfl)
    · replace hf := (if_neg c5).symm.trans hf
      refine lv_iload_n hx hb dX1_shine_17 rfl (lv_at hl 1 rfl) ?_
      refine lv_iconst (v := 2) hx hb dX1_shine_18 (by decide) ?_
      refine lv_idiv hx hb dX1_shine_19 (by decide) ?_
      refine lv_goto (tgt := 24) hx hb dX1_shine_20 (by decide) ?_
      exact J24 v0 (v1 / 2) ls hf (lv_sub hl [0] rfl)
  · replace hf := (if_neg c4).symm.trans hf
    refine lv_iload_n hx hb dX1_shine_5 rfl (lv_at hl 1 rfl) ?_
    refine lv_iconst (v := 3) hx hb dX1_shine_6 (by decide) ?_
    refine lv_iadd hx hb dX1_shine_7 ?_
    refine lv_goto (tgt := 24) hx hb dX1_shine_8 (by decide) ?_
    exact J24 v0 (v1 + 3) ls hf (lv_sub hl [0] rfl)
/-! BrickedUpAsBlind.Kinds.seeming(IIII)I -/
def fX1_seeming (ρ : Rho) (v0 : Int32) (v1 : Int32) (v2 : Int32) (v3 : Int32) : Option Int32 :=
    if v0 = (0 : Int32) then (some 9)
    else (if v0 = (2 : Int32) then (some 0)
    else (if v0 = (3 : Int32) then ((fX1_moves ρ v0 v1 v2 v3).bind fun x4 =>
    if x4 = 0 then (some (if (0 : Int32) < (v1 - (v2 / 3)) then (v1 - (v2 / 3)) else 0))
    else (some ((if (0 : Int32) < (v1 - (v2 / 3)) then (v1 - (v2 / 3)) else 0) + 2)))
    else (if v0 = (5 : Int32) then (some 8)
    else (if v0 = (6 : Int32) then (some ((2 : Int32) * (if (0 : Int32) < (v1 - (v2 / 3)) then (v1 - (v2 / 3)) else 0)))
    else (if v0 = (7 : Int32) then (some 8)
    else (some (if (0 : Int32) < (v1 - (v2 / 3)) then (v1 - (v2 / 3)) else 0)))))))
abbrev rX1_seeming : Room := { frames := 1, cells := 0, slots := 0, locals := 64 }
theorem hdX1_seeming : hdP yX1_seeming 4 := by unfold hdP; decide +kernel
set_option maxHeartbeats 4000000 in
set_option maxRecDepth 100000 in
theorem kX1_seeming (l : Launch) (G : GD) (ρ : Rho) (v0 : Int32) (v1 : Int32) (v2 : Int32) (v3 : Int32) (r : Int32) (hf : fX1_seeming ρ v0 v1 v2 v3 = some r) : RM l G yX1_seeming (Cond.code yX1_seeming cX1_seeming 5 (some .int) :: LW) rX1_seeming ρ [.int v0, .int v1, .int v2, .int v3] (some (.int r)) := by
  refine RM.ofI (own := RX1) (by decide) rfl (Nat.le_of_ble_eq_true rfl) ?_
  intro p e s m args below meth c H locs Q hx hb hml hown hts hK hR hret ls hl
  replace hl : lv_has ls 5 [(0, .int v0), (1, .int v1), (2, .int v2), (3, .int v3)] := hl
  unfold fX1_seeming at hf
  refine lv_iconst (v := 0) hx hb dX1_seeming_0 (by decide) ?_
  refine lv_iload_n hx hb dX1_seeming_1 rfl (lv_at hl 1 rfl) ?_
  refine lv_iload_n hx hb dX1_seeming_2 rfl (lv_at hl 2 rfl) ?_
  refine lv_iconst (v := 3) hx hb dX1_seeming_3 (by decide) ?_
  refine lv_idiv hx hb dX1_seeming_4 (by decide) ?_
  refine lv_isub hx hb dX1_seeming_5 ?_
  refine va_mmax hx hb (hml.trans hl.1.symm) hown (hts _ tw_2_61) (hts _ tw_2_62) (hts _ tw_1_8) (hts _ tw_2_63) (Nat.le_of_ble_eq_true rfl) (Nat.le_of_ble_eq_true rfl) (Nat.zero_le _) (Nat.zero_le _) dX1_seeming_6 ?_
  refine lv_istore (lv' := [(4, .int (if (0 : Int32) < (v1 - (v2 / 3)) then (v1 - (v2 / 3)) else 0)), (0, .int v0), (1, .int v1), (2, .int v2), (3, .int v3)]) hx hb dX1_seeming_9 hl (by decide) rfl (fun ls hl => ?_)
  refine lv_iload_n hx hb dX1_seeming_11 rfl (lv_at hl 1 rfl) ?_
  by_cases c1 : v0 = (0 : Int32)
  · replace hf := (if_pos c1).symm.trans hf
    refine lv_tableIn (tgt := 60) hx hb dX1_seeming_12 (by rw [c1]; decide) (by rw [c1]; decide) (by rw [c1]; rfl) (by decide) ?_
    refine lv_bipush (v := 9) hx hb dX1_seeming_60 (by decide) ?_
    exact hret _ _ _ dX1_seeming_62 hf
  · replace hf := (if_neg c1).symm.trans hf
    by_cases c2 : v0 = (2 : Int32)
    · replace hf := (if_pos c2).symm.trans hf
      refine lv_tableIn (tgt := 63) hx hb dX1_seeming_12 (by rw [c2]; decide) (by rw [c2]; decide) (by rw [c2]; rfl) (by decide) ?_
      refine lv_iconst (v := 0) hx hb dX1_seeming_63 (by decide) ?_
      exact hret _ _ _ dX1_seeming_64 hf
    · replace hf := (if_neg c2).symm.trans hf
      by_cases c3 : v0 = (3 : Int32)
      · replace hf := (if_pos c3).symm.trans hf
        refine lv_tableIn (tgt := 65) hx hb dX1_seeming_12 (by rw [c3]; decide) (by rw [c3]; decide) (by rw [c3]; rfl) (by decide) ?_
        refine lv_iload_n hx hb dX1_seeming_65 rfl (lv_at hl 1 rfl) ?_
        refine lv_iload_n hx hb dX1_seeming_66 rfl (lv_at hl 2 rfl) ?_
        refine lv_iload_n hx hb dX1_seeming_67 rfl (lv_at hl 3 rfl) ?_
        refine lv_iload_n hx hb dX1_seeming_68 rfl (lv_at hl 4 rfl) ?_
        obtain ⟨x4, h4, hf⟩ := Option.bind_eq_some_iff.mp hf
        refine r_callS (As := [.int v0, .int v1, .int v2, .int v3]) (rest := []) (st1 := [.int x4]) ⟨hx, hb, hml, hown, hts⟩ (kX1_moves l G ρ v0 v1 v2 v3 _ h4) (cu_S hts tw_2_18 tw_2_64 tw_2_17 tw_1_7 hdX1_moves rfl rfl ⟨Nat.le_of_ble_eq_true rfl, Nat.le_of_ble_eq_true rfl⟩) hK hR rfl hl.1 rfl (Nat.le_of_ble_eq_true rfl) dX1_seeming_69 ⟨Nat.zero_le _, Nat.zero_le _⟩ rfl ?_
        refine lv_if_eq (tgt := 82) hx hb dX1_seeming_72 (by decide) (fun c5 => ?_) (fun c5 => ?_)
        · replace hf := (if_pos c5).symm.trans hf
          refine lv_iload hx hb dX1_seeming_82 (lv_at hl 0 rfl) ?_
          exact hret _ _ _ dX1_seeming_84 hf
        · replace hf := (if_neg c5).symm.trans hf
          refine lv_iload hx hb dX1_seeming_75 (lv_at hl 0 rfl) ?_
          refine lv_iconst (v := 2) hx hb dX1_seeming_77 (by decide) ?_
          refine lv_iadd hx hb dX1_seeming_78 ?_
          refine lv_goto (tgt := 84) hx hb dX1_seeming_79 (by decide) ?_
          exact hret _ _ _ dX1_seeming_84 hf
      · replace hf := (if_neg c3).symm.trans hf
        by_cases c6 : v0 = (5 : Int32)
        · replace hf := (if_pos c6).symm.trans hf
          refine lv_tableIn (tgt := 90) hx hb dX1_seeming_12 (by rw [c6]; decide) (by rw [c6]; decide) (by rw [c6]; rfl) (by decide) ?_
          refine lv_bipush (v := 8) hx hb dX1_seeming_90 (by decide) ?_
          exact hret _ _ _ dX1_seeming_92 hf
        · replace hf := (if_neg c6).symm.trans hf
          by_cases c7 : v0 = (6 : Int32)
          · replace hf := (if_pos c7).symm.trans hf
            refine lv_tableIn (tgt := 85) hx hb dX1_seeming_12 (by rw [c7]; decide) (by rw [c7]; decide) (by rw [c7]; rfl) (by decide) ?_
            refine lv_iconst (v := 2) hx hb dX1_seeming_85 (by decide) ?_
            refine lv_iload hx hb dX1_seeming_86 (lv_at hl 0 rfl) ?_
            refine lv_imul hx hb dX1_seeming_88 ?_
            exact hret _ _ _ dX1_seeming_89 hf
          · replace hf := (if_neg c7).symm.trans hf
            by_cases c8 : v0 = (7 : Int32)
            · replace hf := (if_pos c8).symm.trans hf
              refine lv_tableIn (tgt := 90) hx hb dX1_seeming_12 (by rw [c8]; decide) (by rw [c8]; decide) (by rw [c8]; rfl) (by decide) ?_
              refine lv_bipush (v := 8) hx hb dX1_seeming_90 (by decide) ?_
              exact hret _ _ _ dX1_seeming_92 hf
            · replace hf := (if_neg c8).symm.trans hf
              refine r_tabD (tgt := 93) hx hb dX1_seeming_12 rfl (fun j hj => ?_) (by decide) ?_
              · replace hj : j < 8 := hj
                rcases (show j = 0 ∨ j = 1 ∨ j = 2 ∨ j = 3 ∨ j = 4 ∨ j = 5 ∨ j = 6 ∨ j = 7 by omega) with rfl | rfl | rfl | rfl | rfl | rfl | rfl | rfl
                · exact Or.inr (lv_neT c1 rfl)
                · exact Or.inl rfl
                · exact Or.inr (lv_neT c2 rfl)
                · exact Or.inr (lv_neT c3 rfl)
                · exact Or.inl rfl
                · exact Or.inr (lv_neT c6 rfl)
                · exact Or.inr (lv_neT c7 rfl)
                · exact Or.inr (lv_neT c8 rfl)
              refine lv_iload hx hb dX1_seeming_93 (lv_at hl 0 rfl) ?_
              exact hret _ _ _ dX1_seeming_95 hf
/-! BrickedUpAsBlind.Odds.commonDivisor(JJ)J -/
def fX4_commonDivisor_9 (ρ : Rho) : Nat → Int64 → Int64 → Int32 → Option Int64
  | 0, _, _, _ => none
  | n + 1, v4, v6, v8 =>
    if (1000 : Int32) ≤ v8 then (some v4)
    else (if (lg_cmp v6 0) = 0 then (some v4)
    else ((rmL v4 v6).bind fun x3 =>
    fX4_commonDivisor_9 ρ n v6 x3 (v8 + 1)))
def fX4_commonDivisor (ρ : Rho) (v0 : Int64) (v2 : Int64) : Option Int64 :=
    fX4_commonDivisor_9 ρ FU v0 v2 0
abbrev rX4_commonDivisor : Room := { frames := 0, cells := 0, slots := 0, locals := 0 }
theorem hdX4_commonDivisor : hdP yX4_commonDivisor 2 := by unfold hdP; decide +kernel
set_option maxHeartbeats 4000000 in
set_option maxRecDepth 100000 in
theorem kX4_commonDivisor (l : Launch) (G : GD) (ρ : Rho) (v0 : Int64) (v2 : Int64) (r : Int64) (hf : fX4_commonDivisor ρ v0 v2 = some r) : RM l G yX4_commonDivisor (Cond.code yX4_commonDivisor cX4_commonDivisor 11 (some .long) :: LW) rX4_commonDivisor ρ [.long v0, .long v2] (some (.long r)) := by
  refine RM.ofL (own := RX4) (by decide) rfl (Nat.le_of_ble_eq_true rfl) ?_
  intro p e s m args below meth c H locs Q hx hb hml hown hts hK hR hret ls hl
  replace hl : lv_has ls 11 [(0, .long v0), (2, .long v2)] := hl
  have L9 : ∀ (n : Nat) (v4 : Int64) (v6 : Int64) (v8 : Int32) (ls : Array Slot), fX4_commonDivisor_9 ρ n v4 v6 v8 = some r → lv_has ls 11 [(4, .long v4), (6, .long v6), (8, .int v8)] → W p l e rX4_commonDivisor s m args below meth c H locs 0 0 Q (F0 m 9 ls []) := by
    intro n
    induction n with
    | zero =>
      intro v4 v6 v8 ls hf
      rw [fX4_commonDivisor_9] at hf
      cases hf
    | succ n ih =>
      intro v4 v6 v8 ls hf hl
      rw [fX4_commonDivisor_9] at hf
      refine lv_iload hx hb dX4_commonDivisor_9 (lv_at hl 2 rfl) ?_
      refine lv_sipush (v := 1000) hx hb dX4_commonDivisor_11 (by decide) ?_
      refine lv_icmp_ge (tgt := 45) hx hb dX4_commonDivisor_14 (by decide) (fun c1 => ?_) (fun c1 => ?_)
      · replace hf := (if_pos c1).symm.trans hf
        refine lv_lload hx hb dX4_commonDivisor_45 (lv_at hl 0 rfl) ?_
        exact hret _ _ _ dX4_commonDivisor_47 hf
      · replace hf := (if_neg c1).symm.trans hf
        refine lv_lload hx hb dX4_commonDivisor_17 (lv_at hl 1 rfl) ?_
        refine lv_lconst (v := 0) hx hb dX4_commonDivisor_19 (by decide) ?_
        refine W.lcmp hx hb dX4_commonDivisor_20 ?_
        refine lv_if_eq (tgt := 45) hx hb dX4_commonDivisor_21 (by decide) (fun c2 => ?_) (fun c2 => ?_)
        · replace hf := (if_pos c2).symm.trans hf
          refine lv_lload hx hb dX4_commonDivisor_45 (lv_at hl 0 rfl) ?_
          exact hret _ _ _ dX4_commonDivisor_47 hf
        · replace hf := (if_neg c2).symm.trans hf
          refine lv_lload hx hb dX4_commonDivisor_24 (lv_at hl 0 rfl) ?_
          refine lv_lload hx hb dX4_commonDivisor_26 (lv_at hl 1 rfl) ?_
          obtain ⟨x3, h3, hf⟩ := Option.bind_eq_some_iff.mp hf
          refine r_lrem hx hb h3 dX4_commonDivisor_28 ?_
          refine lv_lstore (lv' := [(9, .long x3), (4, .long v4), (6, .long v6), (8, .int v8)]) hx hb dX4_commonDivisor_29 hl (by decide) rfl (fun ls hl => ?_)
          refine lv_lload hx hb dX4_commonDivisor_31 (lv_at hl 2 rfl) ?_
          refine lv_lstore (lv' := [(4, .long v6), (9, .long x3), (6, .long v6), (8, .int v8)]) hx hb dX4_commonDivisor_33 hl (by decide) rfl (fun ls hl => ?_)
          refine lv_lload hx hb dX4_commonDivisor_35 (lv_at hl 1 rfl) ?_
          refine lv_lstore (lv' := [(6, .long x3), (4, .long v6), (9, .long x3), (8, .int v8)]) hx hb dX4_commonDivisor_37 hl (by decide) rfl (fun ls hl => ?_)
          refine lv_iinc (v := (v8 + 1)) (lv' := [(8, .int (v8 + 1)), (6, .long x3), (4, .long v6), (9, .long x3)]) hx hb dX4_commonDivisor_39 hl (k := 3) rfl rfl (by decide) rfl (fun ls hl => ?_)
          refine lv_goto (tgt := 9) hx hb dX4_commonDivisor_42 (by decide) ?_
          exact ih v6 x3 (v8 + 1) ls hf (lv_sub hl [2, 1, 0] rfl)
  unfold fX4_commonDivisor at hf
  refine lv_lload_n hx hb dX4_commonDivisor_0 rfl (lv_at hl 0 rfl) ?_
  refine lv_lstore (lv' := [(4, .long v0), (0, .long v0), (2, .long v2)]) hx hb dX4_commonDivisor_1 hl (by decide) rfl (fun ls hl => ?_)
  refine lv_lload_n hx hb dX4_commonDivisor_3 rfl (lv_at hl 2 rfl) ?_
  refine lv_lstore (lv' := [(6, .long v2), (4, .long v0), (0, .long v0), (2, .long v2)]) hx hb dX4_commonDivisor_4 hl (by decide) rfl (fun ls hl => ?_)
  refine lv_iconst (v := 0) hx hb dX4_commonDivisor_6 (by decide) ?_
  refine lv_istore (lv' := [(8, .int 0), (6, .long v2), (4, .long v0), (0, .long v0), (2, .long v2)]) hx hb dX4_commonDivisor_7 hl (by decide) rfl (fun ls hl => ?_)
  exact L9 FU v0 v2 0 ls hf (lv_sub hl [2, 1, 0] rfl)
/-! BrickedUpAsBlind.Odds.leastTerms(JJI)J -/
def fX4_leastTerms (ρ : Rho) (v0 : Int64) (v2 : Int64) (v4 : Int32) : Option Int64 :=
    (fX4_commonDivisor ρ v0 v2).bind fun x1 =>
    if (0 : Int32) < (lg_cmp x1 0) then (if v4 = 0 then ((dvL v0 x1).bind fun x5 =>
    some x5)
    else ((dvL v2 x1).bind fun x4 =>
    some x4))
    else (some 0)
abbrev rX4_leastTerms : Room := { frames := 1, cells := 0, slots := 0, locals := 30 }
theorem hdX4_leastTerms : hdP yX4_leastTerms 3 := by unfold hdP; decide +kernel
set_option maxHeartbeats 4000000 in
set_option maxRecDepth 100000 in
theorem kX4_leastTerms (l : Launch) (G : GD) (ρ : Rho) (v0 : Int64) (v2 : Int64) (v4 : Int32) (r : Int64) (hf : fX4_leastTerms ρ v0 v2 v4 = some r) : RM l G yX4_leastTerms (Cond.code yX4_leastTerms cX4_leastTerms 7 (some .long) :: LW) rX4_leastTerms ρ [.long v0, .long v2, .int v4] (some (.long r)) := by
  refine RM.ofL (own := RX4) (by decide) rfl (Nat.le_of_ble_eq_true rfl) ?_
  intro p e s m args below meth c H locs Q hx hb hml hown hts hK hR hret ls hl
  replace hl : lv_has ls 7 [(0, .long v0), (2, .long v2), (4, .int v4)] := hl
  unfold fX4_leastTerms at hf
  refine lv_lload_n hx hb dX4_leastTerms_0 rfl (lv_at hl 0 rfl) ?_
  refine lv_lload_n hx hb dX4_leastTerms_1 rfl (lv_at hl 1 rfl) ?_
  obtain ⟨x1, h1, hf⟩ := Option.bind_eq_some_iff.mp hf
  refine r_callS (As := [.long v0, .long v2]) (rest := []) (st1 := [.long x1]) ⟨hx, hb, hml, hown, hts⟩ (kX4_commonDivisor l G ρ v0 v2 _ h1) (cu_S hts tw_2_188 tw_2_186 tw_2_187 tw_1_10 hdX4_commonDivisor rfl rfl ⟨Nat.le_of_ble_eq_true rfl, Nat.le_of_ble_eq_true rfl⟩) hK hR rfl hl.1 rfl (Nat.le_of_ble_eq_true rfl) dX4_leastTerms_2 ⟨Nat.zero_le _, Nat.zero_le _⟩ rfl ?_
  refine lv_lstore (lv' := [(5, .long x1), (0, .long v0), (2, .long v2), (4, .int v4)]) hx hb dX4_leastTerms_5 hl (by decide) rfl (fun ls hl => ?_)
  refine lv_lload hx hb dX4_leastTerms_7 (lv_at hl 0 rfl) ?_
  refine lv_lconst (v := 0) hx hb dX4_leastTerms_9 (by decide) ?_
  refine W.lcmp hx hb dX4_leastTerms_10 ?_
  refine lv_if_gt (tgt := 16) hx hb dX4_leastTerms_11 (by decide) (fun c2 => ?_) (fun c2 => ?_)
  · replace hf := (if_pos c2).symm.trans hf
    refine lv_iload hx hb dX4_leastTerms_16 (lv_at hl 3 rfl) ?_
    refine lv_if_ne (tgt := 28) hx hb dX4_leastTerms_18 (by decide) (fun c3 => ?_) (fun c3 => ?_)
    · replace hf := (if_neg c3).symm.trans hf
      refine lv_lload_n hx hb dX4_leastTerms_28 rfl (lv_at hl 2 rfl) ?_
      refine lv_lload hx hb dX4_leastTerms_29 (lv_at hl 0 rfl) ?_
      obtain ⟨x4, h4, hf⟩ := Option.bind_eq_some_iff.mp hf
      refine r_ldiv hx hb h4 dX4_leastTerms_31 ?_
      exact hret _ _ _ dX4_leastTerms_32 hf
    · replace hf := (if_pos c3).symm.trans hf
      refine lv_lload_n hx hb dX4_leastTerms_21 rfl (lv_at hl 1 rfl) ?_
      refine lv_lload hx hb dX4_leastTerms_22 (lv_at hl 0 rfl) ?_
      obtain ⟨x5, h5, hf⟩ := Option.bind_eq_some_iff.mp hf
      refine r_ldiv hx hb h5 dX4_leastTerms_24 ?_
      refine lv_goto (tgt := 32) hx hb dX4_leastTerms_25 (by decide) ?_
      exact hret _ _ _ dX4_leastTerms_32 hf
  · replace hf := (if_neg c2).symm.trans hf
    refine lv_lconst (v := 0) hx hb dX4_leastTerms_14 (by decide) ?_
    exact hret _ _ _ dX4_leastTerms_15 hf
/-! java/lang/Integer.bitCount(I)I -/
def fJ6_bitCount (ρ : Rho) (v0 : Int32) : Option Int32 :=
    some ((((((((v0 - ((UInt32.toInt32 (Int32.toUInt32 v0 >>> (Int32.toUInt32 1 &&& Int32.toUInt32 31))) &&& 1431655765)) &&& 858993459) + ((UInt32.toInt32 (Int32.toUInt32 (v0 - ((UInt32.toInt32 (Int32.toUInt32 v0 >>> (Int32.toUInt32 1 &&& Int32.toUInt32 31))) &&& 1431655765)) >>> (Int32.toUInt32 2 &&& Int32.toUInt32 31))) &&& 858993459)) + (UInt32.toInt32 (Int32.toUInt32 (((v0 - ((UInt32.toInt32 (Int32.toUInt32 v0 >>> (Int32.toUInt32 1 &&& Int32.toUInt32 31))) &&& 1431655765)) &&& 858993459) + ((UInt32.toInt32 (Int32.toUInt32 (v0 - ((UInt32.toInt32 (Int32.toUInt32 v0 >>> (Int32.toUInt32 1 &&& Int32.toUInt32 31))) &&& 1431655765)) >>> (Int32.toUInt32 2 &&& Int32.toUInt32 31))) &&& 858993459)) >>> (Int32.toUInt32 4 &&& Int32.toUInt32 31)))) &&& 252645135) + (UInt32.toInt32 (Int32.toUInt32 (((((v0 - ((UInt32.toInt32 (Int32.toUInt32 v0 >>> (Int32.toUInt32 1 &&& Int32.toUInt32 31))) &&& 1431655765)) &&& 858993459) + ((UInt32.toInt32 (Int32.toUInt32 (v0 - ((UInt32.toInt32 (Int32.toUInt32 v0 >>> (Int32.toUInt32 1 &&& Int32.toUInt32 31))) &&& 1431655765)) >>> (Int32.toUInt32 2 &&& Int32.toUInt32 31))) &&& 858993459)) + (UInt32.toInt32 (Int32.toUInt32 (((v0 - ((UInt32.toInt32 (Int32.toUInt32 v0 >>> (Int32.toUInt32 1 &&& Int32.toUInt32 31))) &&& 1431655765)) &&& 858993459) + ((UInt32.toInt32 (Int32.toUInt32 (v0 - ((UInt32.toInt32 (Int32.toUInt32 v0 >>> (Int32.toUInt32 1 &&& Int32.toUInt32 31))) &&& 1431655765)) >>> (Int32.toUInt32 2 &&& Int32.toUInt32 31))) &&& 858993459)) >>> (Int32.toUInt32 4 &&& Int32.toUInt32 31)))) &&& 252645135) >>> (Int32.toUInt32 8 &&& Int32.toUInt32 31)))) + (UInt32.toInt32 (Int32.toUInt32 ((((((v0 - ((UInt32.toInt32 (Int32.toUInt32 v0 >>> (Int32.toUInt32 1 &&& Int32.toUInt32 31))) &&& 1431655765)) &&& 858993459) + ((UInt32.toInt32 (Int32.toUInt32 (v0 - ((UInt32.toInt32 (Int32.toUInt32 v0 >>> (Int32.toUInt32 1 &&& Int32.toUInt32 31))) &&& 1431655765)) >>> (Int32.toUInt32 2 &&& Int32.toUInt32 31))) &&& 858993459)) + (UInt32.toInt32 (Int32.toUInt32 (((v0 - ((UInt32.toInt32 (Int32.toUInt32 v0 >>> (Int32.toUInt32 1 &&& Int32.toUInt32 31))) &&& 1431655765)) &&& 858993459) + ((UInt32.toInt32 (Int32.toUInt32 (v0 - ((UInt32.toInt32 (Int32.toUInt32 v0 >>> (Int32.toUInt32 1 &&& Int32.toUInt32 31))) &&& 1431655765)) >>> (Int32.toUInt32 2 &&& Int32.toUInt32 31))) &&& 858993459)) >>> (Int32.toUInt32 4 &&& Int32.toUInt32 31)))) &&& 252645135) + (UInt32.toInt32 (Int32.toUInt32 (((((v0 - ((UInt32.toInt32 (Int32.toUInt32 v0 >>> (Int32.toUInt32 1 &&& Int32.toUInt32 31))) &&& 1431655765)) &&& 858993459) + ((UInt32.toInt32 (Int32.toUInt32 (v0 - ((UInt32.toInt32 (Int32.toUInt32 v0 >>> (Int32.toUInt32 1 &&& Int32.toUInt32 31))) &&& 1431655765)) >>> (Int32.toUInt32 2 &&& Int32.toUInt32 31))) &&& 858993459)) + (UInt32.toInt32 (Int32.toUInt32 (((v0 - ((UInt32.toInt32 (Int32.toUInt32 v0 >>> (Int32.toUInt32 1 &&& Int32.toUInt32 31))) &&& 1431655765)) &&& 858993459) + ((UInt32.toInt32 (Int32.toUInt32 (v0 - ((UInt32.toInt32 (Int32.toUInt32 v0 >>> (Int32.toUInt32 1 &&& Int32.toUInt32 31))) &&& 1431655765)) >>> (Int32.toUInt32 2 &&& Int32.toUInt32 31))) &&& 858993459)) >>> (Int32.toUInt32 4 &&& Int32.toUInt32 31)))) &&& 252645135) >>> (Int32.toUInt32 8 &&& Int32.toUInt32 31)))) >>> (Int32.toUInt32 16 &&& Int32.toUInt32 31)))) &&& 63)
abbrev rJ6_bitCount : Room := { frames := 0, cells := 0, slots := 0, locals := 0 }
theorem hdJ6_bitCount : hdP yJ6_bitCount_0f7a4 1 := by unfold hdP; decide +kernel
set_option maxHeartbeats 4000000 in
set_option maxRecDepth 100000 in
theorem kJ6_bitCount (l : Launch) (G : GD) (ρ : Rho) (v0 : Int32) (r : Int32) (hf : fJ6_bitCount ρ v0 = some r) : RM l G yJ6_bitCount_0f7a4 (Cond.code yJ6_bitCount_0f7a4 cJ6_bitCount_0f7a4 1 (some .int) :: LW) rJ6_bitCount ρ [.int v0] (some (.int r)) := by
  refine RM.ofI (own := RJ6) (by decide) rfl (Nat.le_of_ble_eq_true rfl) ?_
  intro p e s m args below meth c H locs Q hx hb hml hown hts hK hR hret ls hl
  replace hl : lv_has ls 1 [(0, .int v0)] := hl
  unfold fJ6_bitCount at hf
  refine lv_iload_n hx hb dJ6_bitCount_0f7a4_0 rfl (lv_at hl 0 rfl) ?_
  refine lv_iload_n hx hb dJ6_bitCount_0f7a4_1 rfl (lv_at hl 0 rfl) ?_
  refine lv_iconst (v := 1) hx hb dJ6_bitCount_0f7a4_2 (by decide) ?_
  refine lv_iushr (v := (UInt32.toInt32 (Int32.toUInt32 v0 >>> (Int32.toUInt32 1 &&& Int32.toUInt32 31)))) hx hb dJ6_bitCount_0f7a4_3 rfl ?_
  refine lv_ldcw (v := 1431655765) hx hb hown (hts _ (lw_t2 (List.mem_of_getElem? (i := 199) rfl) rfl)) dJ6_bitCount_0f7a4_4 ?_
  refine lv_iand hx hb dJ6_bitCount_0f7a4_7 ?_
  refine lv_isub hx hb dJ6_bitCount_0f7a4_8 ?_
  refine lv_istore_n (lv' := [(0, .int (v0 - ((UInt32.toInt32 (Int32.toUInt32 v0 >>> (Int32.toUInt32 1 &&& Int32.toUInt32 31))) &&& 1431655765)))]) hx hb dJ6_bitCount_0f7a4_9 rfl hl (by decide) rfl (fun ls hl => ?_)
  refine lv_iload_n hx hb dJ6_bitCount_0f7a4_10 rfl (lv_at hl 0 rfl) ?_
  refine lv_ldcw (v := 858993459) hx hb hown (hts _ (lw_t2 (List.mem_of_getElem? (i := 200) rfl) rfl)) dJ6_bitCount_0f7a4_11 ?_
  refine lv_iand hx hb dJ6_bitCount_0f7a4_14 ?_
  refine lv_iload_n hx hb dJ6_bitCount_0f7a4_15 rfl (lv_at hl 0 rfl) ?_
  refine lv_iconst (v := 2) hx hb dJ6_bitCount_0f7a4_16 (by decide) ?_
  refine lv_iushr (v := (UInt32.toInt32 (Int32.toUInt32 (v0 - ((UInt32.toInt32 (Int32.toUInt32 v0 >>> (Int32.toUInt32 1 &&& Int32.toUInt32 31))) &&& 1431655765)) >>> (Int32.toUInt32 2 &&& Int32.toUInt32 31)))) hx hb dJ6_bitCount_0f7a4_17 rfl ?_
  refine lv_ldcw (v := 858993459) hx hb hown (hts _ (lw_t2 (List.mem_of_getElem? (i := 200) rfl) rfl)) dJ6_bitCount_0f7a4_18 ?_
  refine lv_iand hx hb dJ6_bitCount_0f7a4_21 ?_
  refine lv_iadd hx hb dJ6_bitCount_0f7a4_22 ?_
  refine lv_istore_n (lv' := [(0, .int (((v0 - ((UInt32.toInt32 (Int32.toUInt32 v0 >>> (Int32.toUInt32 1 &&& Int32.toUInt32 31))) &&& 1431655765)) &&& 858993459) + ((UInt32.toInt32 (Int32.toUInt32 (v0 - ((UInt32.toInt32 (Int32.toUInt32 v0 >>> (Int32.toUInt32 1 &&& Int32.toUInt32 31))) &&& 1431655765)) >>> (Int32.toUInt32 2 &&& Int32.toUInt32 31))) &&& 858993459)))]) hx hb dJ6_bitCount_0f7a4_23 rfl hl (by decide) rfl (fun ls hl => ?_)
  refine lv_iload_n hx hb dJ6_bitCount_0f7a4_24 rfl (lv_at hl 0 rfl) ?_
  refine lv_iload_n hx hb dJ6_bitCount_0f7a4_25 rfl (lv_at hl 0 rfl) ?_
  refine lv_iconst (v := 4) hx hb dJ6_bitCount_0f7a4_26 (by decide) ?_
  refine lv_iushr (v := (UInt32.toInt32 (Int32.toUInt32 (((v0 - ((UInt32.toInt32 (Int32.toUInt32 v0 >>> (Int32.toUInt32 1 &&& Int32.toUInt32 31))) &&& 1431655765)) &&& 858993459) + ((UInt32.toInt32 (Int32.toUInt32 (v0 - ((UInt32.toInt32 (Int32.toUInt32 v0 >>> (Int32.toUInt32 1 &&& Int32.toUInt32 31))) &&& 1431655765)) >>> (Int32.toUInt32 2 &&& Int32.toUInt32 31))) &&& 858993459)) >>> (Int32.toUInt32 4 &&& Int32.toUInt32 31)))) hx hb dJ6_bitCount_0f7a4_27 rfl ?_
  refine lv_iadd hx hb dJ6_bitCount_0f7a4_28 ?_
  refine lv_ldcw (v := 252645135) hx hb hown (hts _ (lw_t2 (List.mem_of_getElem? (i := 201) rfl) rfl)) dJ6_bitCount_0f7a4_29 ?_
  refine lv_iand hx hb dJ6_bitCount_0f7a4_32 ?_
  refine lv_istore_n (lv' := [(0, .int (((((v0 - ((UInt32.toInt32 (Int32.toUInt32 v0 >>> (Int32.toUInt32 1 &&& Int32.toUInt32 31))) &&& 1431655765)) &&& 858993459) + ((UInt32.toInt32 (Int32.toUInt32 (v0 - ((UInt32.toInt32 (Int32.toUInt32 v0 >>> (Int32.toUInt32 1 &&& Int32.toUInt32 31))) &&& 1431655765)) >>> (Int32.toUInt32 2 &&& Int32.toUInt32 31))) &&& 858993459)) + (UInt32.toInt32 (Int32.toUInt32 (((v0 - ((UInt32.toInt32 (Int32.toUInt32 v0 >>> (Int32.toUInt32 1 &&& Int32.toUInt32 31))) &&& 1431655765)) &&& 858993459) + ((UInt32.toInt32 (Int32.toUInt32 (v0 - ((UInt32.toInt32 (Int32.toUInt32 v0 >>> (Int32.toUInt32 1 &&& Int32.toUInt32 31))) &&& 1431655765)) >>> (Int32.toUInt32 2 &&& Int32.toUInt32 31))) &&& 858993459)) >>> (Int32.toUInt32 4 &&& Int32.toUInt32 31)))) &&& 252645135))]) hx hb dJ6_bitCount_0f7a4_33 rfl hl (by decide) rfl (fun ls hl => ?_)
  refine lv_iload_n hx hb dJ6_bitCount_0f7a4_34 rfl (lv_at hl 0 rfl) ?_
  refine lv_iload_n hx hb dJ6_bitCount_0f7a4_35 rfl (lv_at hl 0 rfl) ?_
  refine lv_bipush (v := 8) hx hb dJ6_bitCount_0f7a4_36 (by decide) ?_
  refine lv_iushr (v := (UInt32.toInt32 (Int32.toUInt32 (((((v0 - ((UInt32.toInt32 (Int32.toUInt32 v0 >>> (Int32.toUInt32 1 &&& Int32.toUInt32 31))) &&& 1431655765)) &&& 858993459) + ((UInt32.toInt32 (Int32.toUInt32 (v0 - ((UInt32.toInt32 (Int32.toUInt32 v0 >>> (Int32.toUInt32 1 &&& Int32.toUInt32 31))) &&& 1431655765)) >>> (Int32.toUInt32 2 &&& Int32.toUInt32 31))) &&& 858993459)) + (UInt32.toInt32 (Int32.toUInt32 (((v0 - ((UInt32.toInt32 (Int32.toUInt32 v0 >>> (Int32.toUInt32 1 &&& Int32.toUInt32 31))) &&& 1431655765)) &&& 858993459) + ((UInt32.toInt32 (Int32.toUInt32 (v0 - ((UInt32.toInt32 (Int32.toUInt32 v0 >>> (Int32.toUInt32 1 &&& Int32.toUInt32 31))) &&& 1431655765)) >>> (Int32.toUInt32 2 &&& Int32.toUInt32 31))) &&& 858993459)) >>> (Int32.toUInt32 4 &&& Int32.toUInt32 31)))) &&& 252645135) >>> (Int32.toUInt32 8 &&& Int32.toUInt32 31)))) hx hb dJ6_bitCount_0f7a4_38 rfl ?_
  refine lv_iadd hx hb dJ6_bitCount_0f7a4_39 ?_
  refine lv_istore_n (lv' := [(0, .int ((((((v0 - ((UInt32.toInt32 (Int32.toUInt32 v0 >>> (Int32.toUInt32 1 &&& Int32.toUInt32 31))) &&& 1431655765)) &&& 858993459) + ((UInt32.toInt32 (Int32.toUInt32 (v0 - ((UInt32.toInt32 (Int32.toUInt32 v0 >>> (Int32.toUInt32 1 &&& Int32.toUInt32 31))) &&& 1431655765)) >>> (Int32.toUInt32 2 &&& Int32.toUInt32 31))) &&& 858993459)) + (UInt32.toInt32 (Int32.toUInt32 (((v0 - ((UInt32.toInt32 (Int32.toUInt32 v0 >>> (Int32.toUInt32 1 &&& Int32.toUInt32 31))) &&& 1431655765)) &&& 858993459) + ((UInt32.toInt32 (Int32.toUInt32 (v0 - ((UInt32.toInt32 (Int32.toUInt32 v0 >>> (Int32.toUInt32 1 &&& Int32.toUInt32 31))) &&& 1431655765)) >>> (Int32.toUInt32 2 &&& Int32.toUInt32 31))) &&& 858993459)) >>> (Int32.toUInt32 4 &&& Int32.toUInt32 31)))) &&& 252645135) + (UInt32.toInt32 (Int32.toUInt32 (((((v0 - ((UInt32.toInt32 (Int32.toUInt32 v0 >>> (Int32.toUInt32 1 &&& Int32.toUInt32 31))) &&& 1431655765)) &&& 858993459) + ((UInt32.toInt32 (Int32.toUInt32 (v0 - ((UInt32.toInt32 (Int32.toUInt32 v0 >>> (Int32.toUInt32 1 &&& Int32.toUInt32 31))) &&& 1431655765)) >>> (Int32.toUInt32 2 &&& Int32.toUInt32 31))) &&& 858993459)) + (UInt32.toInt32 (Int32.toUInt32 (((v0 - ((UInt32.toInt32 (Int32.toUInt32 v0 >>> (Int32.toUInt32 1 &&& Int32.toUInt32 31))) &&& 1431655765)) &&& 858993459) + ((UInt32.toInt32 (Int32.toUInt32 (v0 - ((UInt32.toInt32 (Int32.toUInt32 v0 >>> (Int32.toUInt32 1 &&& Int32.toUInt32 31))) &&& 1431655765)) >>> (Int32.toUInt32 2 &&& Int32.toUInt32 31))) &&& 858993459)) >>> (Int32.toUInt32 4 &&& Int32.toUInt32 31)))) &&& 252645135) >>> (Int32.toUInt32 8 &&& Int32.toUInt32 31)))))]) hx hb dJ6_bitCount_0f7a4_40 rfl hl (by decide) rfl (fun ls hl => ?_)
  refine lv_iload_n hx hb dJ6_bitCount_0f7a4_41 rfl (lv_at hl 0 rfl) ?_
  refine lv_iload_n hx hb dJ6_bitCount_0f7a4_42 rfl (lv_at hl 0 rfl) ?_
  refine lv_bipush (v := 16) hx hb dJ6_bitCount_0f7a4_43 (by decide) ?_
  refine lv_iushr (v := (UInt32.toInt32 (Int32.toUInt32 ((((((v0 - ((UInt32.toInt32 (Int32.toUInt32 v0 >>> (Int32.toUInt32 1 &&& Int32.toUInt32 31))) &&& 1431655765)) &&& 858993459) + ((UInt32.toInt32 (Int32.toUInt32 (v0 - ((UInt32.toInt32 (Int32.toUInt32 v0 >>> (Int32.toUInt32 1 &&& Int32.toUInt32 31))) &&& 1431655765)) >>> (Int32.toUInt32 2 &&& Int32.toUInt32 31))) &&& 858993459)) + (UInt32.toInt32 (Int32.toUInt32 (((v0 - ((UInt32.toInt32 (Int32.toUInt32 v0 >>> (Int32.toUInt32 1 &&& Int32.toUInt32 31))) &&& 1431655765)) &&& 858993459) + ((UInt32.toInt32 (Int32.toUInt32 (v0 - ((UInt32.toInt32 (Int32.toUInt32 v0 >>> (Int32.toUInt32 1 &&& Int32.toUInt32 31))) &&& 1431655765)) >>> (Int32.toUInt32 2 &&& Int32.toUInt32 31))) &&& 858993459)) >>> (Int32.toUInt32 4 &&& Int32.toUInt32 31)))) &&& 252645135) + (UInt32.toInt32 (Int32.toUInt32 (((((v0 - ((UInt32.toInt32 (Int32.toUInt32 v0 >>> (Int32.toUInt32 1 &&& Int32.toUInt32 31))) &&& 1431655765)) &&& 858993459) + ((UInt32.toInt32 (Int32.toUInt32 (v0 - ((UInt32.toInt32 (Int32.toUInt32 v0 >>> (Int32.toUInt32 1 &&& Int32.toUInt32 31))) &&& 1431655765)) >>> (Int32.toUInt32 2 &&& Int32.toUInt32 31))) &&& 858993459)) + (UInt32.toInt32 (Int32.toUInt32 (((v0 - ((UInt32.toInt32 (Int32.toUInt32 v0 >>> (Int32.toUInt32 1 &&& Int32.toUInt32 31))) &&& 1431655765)) &&& 858993459) + ((UInt32.toInt32 (Int32.toUInt32 (v0 - ((UInt32.toInt32 (Int32.toUInt32 v0 >>> (Int32.toUInt32 1 &&& Int32.toUInt32 31))) &&& 1431655765)) >>> (Int32.toUInt32 2 &&& Int32.toUInt32 31))) &&& 858993459)) >>> (Int32.toUInt32 4 &&& Int32.toUInt32 31)))) &&& 252645135) >>> (Int32.toUInt32 8 &&& Int32.toUInt32 31)))) >>> (Int32.toUInt32 16 &&& Int32.toUInt32 31)))) hx hb dJ6_bitCount_0f7a4_45 rfl ?_
  refine lv_iadd hx hb dJ6_bitCount_0f7a4_46 ?_
  refine lv_istore_n (lv' := [(0, .int (((((((v0 - ((UInt32.toInt32 (Int32.toUInt32 v0 >>> (Int32.toUInt32 1 &&& Int32.toUInt32 31))) &&& 1431655765)) &&& 858993459) + ((UInt32.toInt32 (Int32.toUInt32 (v0 - ((UInt32.toInt32 (Int32.toUInt32 v0 >>> (Int32.toUInt32 1 &&& Int32.toUInt32 31))) &&& 1431655765)) >>> (Int32.toUInt32 2 &&& Int32.toUInt32 31))) &&& 858993459)) + (UInt32.toInt32 (Int32.toUInt32 (((v0 - ((UInt32.toInt32 (Int32.toUInt32 v0 >>> (Int32.toUInt32 1 &&& Int32.toUInt32 31))) &&& 1431655765)) &&& 858993459) + ((UInt32.toInt32 (Int32.toUInt32 (v0 - ((UInt32.toInt32 (Int32.toUInt32 v0 >>> (Int32.toUInt32 1 &&& Int32.toUInt32 31))) &&& 1431655765)) >>> (Int32.toUInt32 2 &&& Int32.toUInt32 31))) &&& 858993459)) >>> (Int32.toUInt32 4 &&& Int32.toUInt32 31)))) &&& 252645135) + (UInt32.toInt32 (Int32.toUInt32 (((((v0 - ((UInt32.toInt32 (Int32.toUInt32 v0 >>> (Int32.toUInt32 1 &&& Int32.toUInt32 31))) &&& 1431655765)) &&& 858993459) + ((UInt32.toInt32 (Int32.toUInt32 (v0 - ((UInt32.toInt32 (Int32.toUInt32 v0 >>> (Int32.toUInt32 1 &&& Int32.toUInt32 31))) &&& 1431655765)) >>> (Int32.toUInt32 2 &&& Int32.toUInt32 31))) &&& 858993459)) + (UInt32.toInt32 (Int32.toUInt32 (((v0 - ((UInt32.toInt32 (Int32.toUInt32 v0 >>> (Int32.toUInt32 1 &&& Int32.toUInt32 31))) &&& 1431655765)) &&& 858993459) + ((UInt32.toInt32 (Int32.toUInt32 (v0 - ((UInt32.toInt32 (Int32.toUInt32 v0 >>> (Int32.toUInt32 1 &&& Int32.toUInt32 31))) &&& 1431655765)) >>> (Int32.toUInt32 2 &&& Int32.toUInt32 31))) &&& 858993459)) >>> (Int32.toUInt32 4 &&& Int32.toUInt32 31)))) &&& 252645135) >>> (Int32.toUInt32 8 &&& Int32.toUInt32 31)))) + (UInt32.toInt32 (Int32.toUInt32 ((((((v0 - ((UInt32.toInt32 (Int32.toUInt32 v0 >>> (Int32.toUInt32 1 &&& Int32.toUInt32 31))) &&& 1431655765)) &&& 858993459) + ((UInt32.toInt32 (Int32.toUInt32 (v0 - ((UInt32.toInt32 (Int32.toUInt32 v0 >>> (Int32.toUInt32 1 &&& Int32.toUInt32 31))) &&& 1431655765)) >>> (Int32.toUInt32 2 &&& Int32.toUInt32 31))) &&& 858993459)) + (UInt32.toInt32 (Int32.toUInt32 (((v0 - ((UInt32.toInt32 (Int32.toUInt32 v0 >>> (Int32.toUInt32 1 &&& Int32.toUInt32 31))) &&& 1431655765)) &&& 858993459) + ((UInt32.toInt32 (Int32.toUInt32 (v0 - ((UInt32.toInt32 (Int32.toUInt32 v0 >>> (Int32.toUInt32 1 &&& Int32.toUInt32 31))) &&& 1431655765)) >>> (Int32.toUInt32 2 &&& Int32.toUInt32 31))) &&& 858993459)) >>> (Int32.toUInt32 4 &&& Int32.toUInt32 31)))) &&& 252645135) + (UInt32.toInt32 (Int32.toUInt32 (((((v0 - ((UInt32.toInt32 (Int32.toUInt32 v0 >>> (Int32.toUInt32 1 &&& Int32.toUInt32 31))) &&& 1431655765)) &&& 858993459) + ((UInt32.toInt32 (Int32.toUInt32 (v0 - ((UInt32.toInt32 (Int32.toUInt32 v0 >>> (Int32.toUInt32 1 &&& Int32.toUInt32 31))) &&& 1431655765)) >>> (Int32.toUInt32 2 &&& Int32.toUInt32 31))) &&& 858993459)) + (UInt32.toInt32 (Int32.toUInt32 (((v0 - ((UInt32.toInt32 (Int32.toUInt32 v0 >>> (Int32.toUInt32 1 &&& Int32.toUInt32 31))) &&& 1431655765)) &&& 858993459) + ((UInt32.toInt32 (Int32.toUInt32 (v0 - ((UInt32.toInt32 (Int32.toUInt32 v0 >>> (Int32.toUInt32 1 &&& Int32.toUInt32 31))) &&& 1431655765)) >>> (Int32.toUInt32 2 &&& Int32.toUInt32 31))) &&& 858993459)) >>> (Int32.toUInt32 4 &&& Int32.toUInt32 31)))) &&& 252645135) >>> (Int32.toUInt32 8 &&& Int32.toUInt32 31)))) >>> (Int32.toUInt32 16 &&& Int32.toUInt32 31)))))]) hx hb dJ6_bitCount_0f7a4_47 rfl hl (by decide) rfl (fun ls hl => ?_)
  refine lv_iload_n hx hb dJ6_bitCount_0f7a4_48 rfl (lv_at hl 0 rfl) ?_
  refine lv_bipush (v := 63) hx hb dJ6_bitCount_0f7a4_49 (by decide) ?_
  refine lv_iand hx hb dJ6_bitCount_0f7a4_51 ?_
  exact hret _ _ _ dJ6_bitCount_0f7a4_52 hf
/-! BrickedUpAsBlind.Kinds.isPainted(I)Z -/
def fX1_isPainted (ρ : Rho) (v0 : Int32) : Option Int32 :=
    if v0 = 1 then (nb 1)
    else (if v0 = 3 then (nb 1)
    else (if v0 = 4 then (nb 1)
    else (if v0 = 6 then (nb 1)
    else (nb 0))))
abbrev rX1_isPainted : Room := { frames := 0, cells := 0, slots := 0, locals := 0 }
theorem hdX1_isPainted : hdP yX1_isPainted 1 := by unfold hdP; decide +kernel
set_option maxHeartbeats 4000000 in
set_option maxRecDepth 100000 in
theorem kX1_isPainted (l : Launch) (G : GD) (ρ : Rho) (v0 : Int32) (r : Int32) (hf : fX1_isPainted ρ v0 = some r) : RM l G yX1_isPainted (Cond.code yX1_isPainted cX1_isPainted 1 (some .boolean) :: LW) rX1_isPainted ρ [.int v0] (some (.int r)) := by
  refine RM.ofZ (own := RX1) (by decide) rfl (Nat.le_of_ble_eq_true rfl) ?_
  intro p e s m args below meth c H locs Q hx hb hml hown hts hK hR hret ls hl
  replace hl : lv_has ls 1 [(0, .int v0)] := hl
  unfold fX1_isPainted at hf
  refine lv_iload_n hx hb dX1_isPainted_0 rfl (lv_at hl 0 rfl) ?_
  refine lv_iconst (v := 1) hx hb dX1_isPainted_1 (by decide) ?_
  refine lv_icmp_eq (tgt := 21) hx hb dX1_isPainted_2 (by decide) (fun c1 => ?_) (fun c1 => ?_)
  · replace hf := (if_pos c1).symm.trans hf
    refine lv_iconst (v := 1) hx hb dX1_isPainted_21 (by decide) ?_
    refine lv_goto (tgt := 26) hx hb dX1_isPainted_22 (by decide) ?_
    exact hret _ _ _ dX1_isPainted_26 hf
  · replace hf := (if_neg c1).symm.trans hf
    refine lv_iload_n hx hb dX1_isPainted_5 rfl (lv_at hl 0 rfl) ?_
    refine lv_iconst (v := 3) hx hb dX1_isPainted_6 (by decide) ?_
    refine lv_icmp_eq (tgt := 21) hx hb dX1_isPainted_7 (by decide) (fun c2 => ?_) (fun c2 => ?_)
    · replace hf := (if_pos c2).symm.trans hf
      refine lv_iconst (v := 1) hx hb dX1_isPainted_21 (by decide) ?_
      refine lv_goto (tgt := 26) hx hb dX1_isPainted_22 (by decide) ?_
      exact hret _ _ _ dX1_isPainted_26 hf
    · replace hf := (if_neg c2).symm.trans hf
      refine lv_iload_n hx hb dX1_isPainted_10 rfl (lv_at hl 0 rfl) ?_
      refine lv_iconst (v := 4) hx hb dX1_isPainted_11 (by decide) ?_
      refine lv_icmp_eq (tgt := 21) hx hb dX1_isPainted_12 (by decide) (fun c3 => ?_) (fun c3 => ?_)
      · replace hf := (if_pos c3).symm.trans hf
        refine lv_iconst (v := 1) hx hb dX1_isPainted_21 (by decide) ?_
        refine lv_goto (tgt := 26) hx hb dX1_isPainted_22 (by decide) ?_
        exact hret _ _ _ dX1_isPainted_26 hf
      · replace hf := (if_neg c3).symm.trans hf
        refine lv_iload_n hx hb dX1_isPainted_15 rfl (lv_at hl 0 rfl) ?_
        refine lv_bipush (v := 6) hx hb dX1_isPainted_16 (by decide) ?_
        refine lv_icmp_ne (tgt := 25) hx hb dX1_isPainted_18 (by decide) (fun c4 => ?_) (fun c4 => ?_)
        · replace hf := (if_neg c4).symm.trans hf
          refine lv_iconst (v := 0) hx hb dX1_isPainted_25 (by decide) ?_
          exact hret _ _ _ dX1_isPainted_26 hf
        · replace hf := (if_pos c4).symm.trans hf
          refine lv_iconst (v := 1) hx hb dX1_isPainted_21 (by decide) ?_
          refine lv_goto (tgt := 26) hx hb dX1_isPainted_22 (by decide) ?_
          exact hret _ _ _ dX1_isPainted_26 hf
/-! BrickedUpAsBlind.Odds.power(JI)J -/
def fX4_power_5 (ρ : Rho) : Nat → Int64 → Int32 → Int64 → Int32 → Option Int64
  | 0, _, _, _, _ => none
  | n + 1, v0, v2, v3, v5 =>
    if v2 ≤ v5 then (some v3)
    else (fX4_power_5 ρ n v0 v2 (v3 * v0) (v5 + 1))
def fX4_power (ρ : Rho) (v0 : Int64) (v2 : Int32) : Option Int64 :=
    fX4_power_5 ρ FU v0 v2 1 0
abbrev rX4_power : Room := { frames := 0, cells := 0, slots := 0, locals := 0 }
theorem hdX4_power : hdP yX4_power 2 := by unfold hdP; decide +kernel
set_option maxHeartbeats 4000000 in
set_option maxRecDepth 100000 in
theorem kX4_power (l : Launch) (G : GD) (ρ : Rho) (v0 : Int64) (v2 : Int32) (r : Int64) (hf : fX4_power ρ v0 v2 = some r) : RM l G yX4_power (Cond.code yX4_power cX4_power 6 (some .long) :: LW) rX4_power ρ [.long v0, .int v2] (some (.long r)) := by
  refine RM.ofL (own := RX4) (by decide) rfl (Nat.le_of_ble_eq_true rfl) ?_
  intro p e s m args below meth c H locs Q hx hb hml hown hts hK hR hret ls hl
  replace hl : lv_has ls 6 [(0, .long v0), (2, .int v2)] := hl
  have L5 : ∀ (n : Nat) (v0 : Int64) (v2 : Int32) (v3 : Int64) (v5 : Int32) (ls : Array Slot), fX4_power_5 ρ n v0 v2 v3 v5 = some r → lv_has ls 6 [(0, .long v0), (2, .int v2), (3, .long v3), (5, .int v5)] → W p l e rX4_power s m args below meth c H locs 0 0 Q (F0 m 5 ls []) := by
    intro n
    induction n with
    | zero =>
      intro v0 v2 v3 v5 ls hf
      rw [fX4_power_5] at hf
      cases hf
    | succ n ih =>
      intro v0 v2 v3 v5 ls hf hl
      rw [fX4_power_5] at hf
      refine lv_iload hx hb dX4_power_5 (lv_at hl 3 rfl) ?_
      refine lv_iload_n hx hb dX4_power_7 rfl (lv_at hl 1 rfl) ?_
      refine lv_icmp_ge (tgt := 21) hx hb dX4_power_8 (by decide) (fun c1 => ?_) (fun c1 => ?_)
      · replace hf := (if_pos c1).symm.trans hf
        refine lv_lload_n hx hb dX4_power_21 rfl (lv_at hl 2 rfl) ?_
        exact hret _ _ _ dX4_power_22 hf
      · replace hf := (if_neg c1).symm.trans hf
        refine lv_lload_n hx hb dX4_power_11 rfl (lv_at hl 2 rfl) ?_
        refine lv_lload_n hx hb dX4_power_12 rfl (lv_at hl 0 rfl) ?_
        refine lv_lmul hx hb dX4_power_13 ?_
        refine lv_lstore_n (lv' := [(3, .long (v3 * v0)), (0, .long v0), (2, .int v2), (5, .int v5)]) hx hb dX4_power_14 rfl hl (by decide) rfl (fun ls hl => ?_)
        refine lv_iinc (v := (v5 + 1)) (lv' := [(5, .int (v5 + 1)), (3, .long (v3 * v0)), (0, .long v0), (2, .int v2)]) hx hb dX4_power_15 hl (k := 3) rfl rfl (by decide) rfl (fun ls hl => ?_)
        refine lv_goto (tgt := 5) hx hb dX4_power_18 (by decide) ?_
        exact ih v0 v2 (v3 * v0) (v5 + 1) ls hf (lv_sub hl [2, 3, 1, 0] rfl)
  unfold fX4_power at hf
  refine lv_lconst (v := 1) hx hb dX4_power_0 (by decide) ?_
  refine lv_lstore_n (lv' := [(3, .long 1), (0, .long v0), (2, .int v2)]) hx hb dX4_power_1 rfl hl (by decide) rfl (fun ls hl => ?_)
  refine lv_iconst (v := 0) hx hb dX4_power_2 (by decide) ?_
  refine lv_istore (lv' := [(5, .int 0), (3, .long 1), (0, .long v0), (2, .int v2)]) hx hb dX4_power_3 hl (by decide) rfl (fun ls hl => ?_)
  exact L5 FU v0 v2 1 0 ls hf (lv_sub hl [2, 3, 1, 0] rfl)
/-! BrickedUpAsBlind.Odds.wetWays(III)J -/
def fX4_wetWays_37 (ρ : Rho) (k8 : Int32 → Int32 → Int32 → Int64 → Int64 → Int32 → Option Int64) (v0 : Int32) (v1 : Int32) (v2 : Int32) (v3 : Int64) (v5 : Int64) (v7 : Int32) : Option Int64 :=
    (dvL (v5 * (Int32.toInt64 (v1 - v7))) (Int32.toInt64 (v7 + 1))).bind fun x1 =>
    k8 v0 v1 v2 v3 x1 (v7 + 1)
def fX4_wetWays_8 (ρ : Rho) : Nat → Int32 → Int32 → Int32 → Int64 → Int64 → Int32 → Option Int64
  | 0, _, _, _, _, _, _ => none
  | n + 1, v0, v1, v2, v3, v5, v7 =>
    if v1 < v7 then (some v3)
    else (if v7 < v2 then (fX4_wetWays_37 ρ (fX4_wetWays_8 ρ n) v0 v1 v2 v3 v5 v7)
    else ((fX4_power ρ (Int32.toInt64 (v0 - 1)) (v1 - v7)).bind fun x4 =>
    fX4_wetWays_37 ρ (fX4_wetWays_8 ρ n) v0 v1 v2 (v3 + (v5 * x4)) v5 v7))
def fX4_wetWays (ρ : Rho) (v0 : Int32) (v1 : Int32) (v2 : Int32) : Option Int64 :=
    fX4_wetWays_8 ρ FU v0 v1 v2 0 1 0
abbrev rX4_wetWays : Room := { frames := 1, cells := 0, slots := 0, locals := 25 }
theorem hdX4_wetWays : hdP yX4_wetWays 3 := by unfold hdP; decide +kernel
set_option maxHeartbeats 4000000 in
set_option maxRecDepth 100000 in
theorem kX4_wetWays (l : Launch) (G : GD) (ρ : Rho) (v0 : Int32) (v1 : Int32) (v2 : Int32) (r : Int64) (hf : fX4_wetWays ρ v0 v1 v2 = some r) : RM l G yX4_wetWays (Cond.code yX4_wetWays cX4_wetWays 8 (some .long) :: LW) rX4_wetWays ρ [.int v0, .int v1, .int v2] (some (.long r)) := by
  refine RM.ofL (own := RX4) (by decide) rfl (Nat.le_of_ble_eq_true rfl) ?_
  intro p e s m args below meth c H locs Q hx hb hml hown hts hK hR hret ls hl
  replace hl : lv_has ls 8 [(0, .int v0), (1, .int v1), (2, .int v2)] := hl
  have J37 : ∀ (k8 : Int32 → Int32 → Int32 → Int64 → Int64 → Int32 → Option Int64) (_ : ∀ (v0 : Int32) (v1 : Int32) (v2 : Int32) (v3 : Int64) (v5 : Int64) (v7 : Int32) (ls : Array Slot), k8 v0 v1 v2 v3 v5 v7 = some r → lv_has ls 8 [(0, .int v0), (1, .int v1), (2, .int v2), (3, .long v3), (5, .long v5), (7, .int v7)] → W p l e rX4_wetWays s m args below meth c H locs 0 0 Q (F0 m 8 ls [])), ∀ (v0 : Int32) (v1 : Int32) (v2 : Int32) (v3 : Int64) (v5 : Int64) (v7 : Int32) (ls : Array Slot), fX4_wetWays_37 ρ k8 v0 v1 v2 v3 v5 v7 = some r → lv_has ls 8 [(0, .int v0), (1, .int v1), (2, .int v2), (3, .long v3), (5, .long v5), (7, .int v7)] → W p l e rX4_wetWays s m args below meth c H locs 0 0 Q (F0 m 37 ls []) := by
    intro k8 hk8 v0 v1 v2 v3 v5 v7 ls hf hl
    rw [fX4_wetWays_37] at hf
    refine lv_lload hx hb dX4_wetWays_37 (lv_at hl 4 rfl) ?_
    refine lv_iload_n hx hb dX4_wetWays_39 rfl (lv_at hl 1 rfl) ?_
    refine lv_iload hx hb dX4_wetWays_40 (lv_at hl 5 rfl) ?_
    refine lv_isub hx hb dX4_wetWays_42 ?_
    refine lv_i2l (v := (Int32.toInt64 (v1 - v7))) hx hb dX4_wetWays_43 rfl ?_
    refine lv_lmul hx hb dX4_wetWays_44 ?_
    refine lv_iload hx hb dX4_wetWays_45 (lv_at hl 5 rfl) ?_
    refine lv_iconst (v := 1) hx hb dX4_wetWays_47 (by decide) ?_
    refine lv_iadd hx hb dX4_wetWays_48 ?_
    refine lv_i2l (v := (Int32.toInt64 (v7 + 1))) hx hb dX4_wetWays_49 rfl ?_
    obtain ⟨x1, h1, hf⟩ := Option.bind_eq_some_iff.mp hf
    refine r_ldiv hx hb h1 dX4_wetWays_50 ?_
    refine lv_lstore (lv' := [(5, .long x1), (0, .int v0), (1, .int v1), (2, .int v2), (3, .long v3), (7, .int v7)]) hx hb dX4_wetWays_51 hl (by decide) rfl (fun ls hl => ?_)
    refine lv_iinc (v := (v7 + 1)) (lv' := [(7, .int (v7 + 1)), (5, .long x1), (0, .int v0), (1, .int v1), (2, .int v2), (3, .long v3)]) hx hb dX4_wetWays_53 hl (k := 5) rfl rfl (by decide) rfl (fun ls hl => ?_)
    refine lv_goto (tgt := 8) hx hb dX4_wetWays_56 (by decide) ?_
    exact hk8 v0 v1 v2 v3 x1 (v7 + 1) ls hf (lv_sub hl [2, 3, 4, 5, 1, 0] rfl)
  have L8 : ∀ (n : Nat) (v0 : Int32) (v1 : Int32) (v2 : Int32) (v3 : Int64) (v5 : Int64) (v7 : Int32) (ls : Array Slot), fX4_wetWays_8 ρ n v0 v1 v2 v3 v5 v7 = some r → lv_has ls 8 [(0, .int v0), (1, .int v1), (2, .int v2), (3, .long v3), (5, .long v5), (7, .int v7)] → W p l e rX4_wetWays s m args below meth c H locs 0 0 Q (F0 m 8 ls []) := by
    intro n
    induction n with
    | zero =>
      intro v0 v1 v2 v3 v5 v7 ls hf
      rw [fX4_wetWays_8] at hf
      cases hf
    | succ n ih =>
      intro v0 v1 v2 v3 v5 v7 ls hf hl
      rw [fX4_wetWays_8] at hf
      refine lv_iload hx hb dX4_wetWays_8 (lv_at hl 5 rfl) ?_
      refine lv_iload_n hx hb dX4_wetWays_10 rfl (lv_at hl 1 rfl) ?_
      refine lv_icmp_gt (tgt := 59) hx hb dX4_wetWays_11 (by decide) (fun c2 => ?_) (fun c2 => ?_)
      · replace hf := (if_pos c2).symm.trans hf
        refine lv_lload_n hx hb dX4_wetWays_59 rfl (lv_at hl 3 rfl) ?_
        exact hret _ _ _ dX4_wetWays_60 hf
      · replace hf := (if_neg c2).symm.trans hf
        refine lv_iload hx hb dX4_wetWays_14 (lv_at hl 5 rfl) ?_
        refine lv_iload_n hx hb dX4_wetWays_16 rfl (lv_at hl 2 rfl) ?_
        refine lv_icmp_lt (tgt := 37) hx hb dX4_wetWays_17 (by decide) (fun c3 => ?_) (fun c3 => ?_)
        · replace hf := (if_pos c3).symm.trans hf
          exact J37 _ ih v0 v1 v2 v3 v5 v7 ls hf (lv_sub hl [0, 1, 2, 3, 4, 5] rfl)
        · replace hf := (if_neg c3).symm.trans hf
          refine lv_lload_n hx hb dX4_wetWays_20 rfl (lv_at hl 3 rfl) ?_
          refine lv_lload hx hb dX4_wetWays_21 (lv_at hl 4 rfl) ?_
          refine lv_iload_n hx hb dX4_wetWays_23 rfl (lv_at hl 0 rfl) ?_
          refine lv_iconst (v := 1) hx hb dX4_wetWays_24 (by decide) ?_
          refine lv_isub hx hb dX4_wetWays_25 ?_
          refine lv_i2l (v := (Int32.toInt64 (v0 - 1))) hx hb dX4_wetWays_26 rfl ?_
          refine lv_iload_n hx hb dX4_wetWays_27 rfl (lv_at hl 1 rfl) ?_
          refine lv_iload hx hb dX4_wetWays_28 (lv_at hl 5 rfl) ?_
          refine lv_isub hx hb dX4_wetWays_30 ?_
          obtain ⟨x4, h4, hf⟩ := Option.bind_eq_some_iff.mp hf
          refine r_callS (As := [.long (Int32.toInt64 (v0 - 1)), .int (v1 - v7)]) (rest := [.long v5, .long v3]) (st1 := [.long x4, .long v5, .long v3]) ⟨hx, hb, hml, hown, hts⟩ (kX4_power l G ρ (Int32.toInt64 (v0 - 1)) (v1 - v7) _ h4) (cu_S hts tw_3_107 tw_3_105 tw_3_106 tw_1_10 hdX4_power rfl rfl ⟨Nat.le_of_ble_eq_true rfl, Nat.le_of_ble_eq_true rfl⟩) hK hR rfl hl.1 rfl (Nat.le_of_ble_eq_true rfl) dX4_wetWays_31 ⟨Nat.zero_le _, Nat.zero_le _⟩ rfl ?_
          refine lv_lmul hx hb dX4_wetWays_34 ?_
          refine lv_ladd hx hb dX4_wetWays_35 ?_
          refine lv_lstore_n (lv' := [(3, .long (v3 + (v5 * x4))), (0, .int v0), (1, .int v1), (2, .int v2), (5, .long v5), (7, .int v7)]) hx hb dX4_wetWays_36 rfl hl (by decide) rfl (fun ls hl => ?_)
          exact J37 _ ih v0 v1 v2 (v3 + (v5 * x4)) v5 v7 ls hf (lv_sub hl [1, 2, 3, 0, 4, 5] rfl)
  unfold fX4_wetWays at hf
  refine lv_lconst (v := 0) hx hb dX4_wetWays_0 (by decide) ?_
  refine lv_lstore_n (lv' := [(3, .long 0), (0, .int v0), (1, .int v1), (2, .int v2)]) hx hb dX4_wetWays_1 rfl hl (by decide) rfl (fun ls hl => ?_)
  refine lv_lconst (v := 1) hx hb dX4_wetWays_2 (by decide) ?_
  refine lv_lstore (lv' := [(5, .long 1), (3, .long 0), (0, .int v0), (1, .int v1), (2, .int v2)]) hx hb dX4_wetWays_3 hl (by decide) rfl (fun ls hl => ?_)
  refine lv_iconst (v := 0) hx hb dX4_wetWays_5 (by decide) ?_
  refine lv_istore (lv' := [(7, .int 0), (5, .long 1), (3, .long 0), (0, .int v0), (1, .int v1), (2, .int v2)]) hx hb dX4_wetWays_6 hl (by decide) rfl (fun ls hl => ?_)
  exact L8 FU v0 v1 v2 0 1 0 ls hf (lv_sub hl [3, 4, 5, 2, 1, 0] rfl)
/-! BrickedUpAsBlind.Kinds.price(II)I -/
def fX1_price (ρ : Rho) (v0 : Int32) (v1 : Int32) : Option Int32 :=
    if v0 = (0 : Int32) then (some 5)
    else (if v0 = (2 : Int32) then (some ((5 : Int32) - 4))
    else (if v0 = (3 : Int32) then (some (((5 : Int32) + v1) + 1))
    else (if v0 = (4 : Int32) then (some ((2 : Int32) * ((5 : Int32) + v1)))
    else (if v0 = (5 : Int32) then (some ((5 : Int32) + 2))
    else (if v0 = (6 : Int32) then (some (((5 : Int32) + v1) - 1))
    else (if v0 = (7 : Int32) then (some (((5 : Int32) + 2) / 2))
    else (some ((5 : Int32) + v1))))))))
abbrev rX1_price : Room := { frames := 0, cells := 0, slots := 0, locals := 0 }
theorem hdX1_price : hdP yX1_price 2 := by unfold hdP; decide +kernel
set_option maxHeartbeats 4000000 in
set_option maxRecDepth 100000 in
theorem kX1_price (l : Launch) (G : GD) (ρ : Rho) (v0 : Int32) (v1 : Int32) (r : Int32) (hf : fX1_price ρ v0 v1 = some r) : RM l G yX1_price (Cond.code yX1_price cX1_price 5 (some .int) :: LW) rX1_price ρ [.int v0, .int v1] (some (.int r)) := by
  refine RM.ofI (own := RX1) (by decide) rfl (Nat.le_of_ble_eq_true rfl) ?_
  intro p e s m args below meth c H locs Q hx hb hml hown hts hK hR hret ls hl
  replace hl : lv_has ls 5 [(0, .int v0), (1, .int v1)] := hl
  unfold fX1_price at hf
  refine lv_iconst (v := 5) hx hb dX1_price_0 (by decide) ?_
  refine lv_istore_n (lv' := [(2, .int 5), (0, .int v0), (1, .int v1)]) hx hb dX1_price_1 rfl hl (by decide) rfl (fun ls hl => ?_)
  refine lv_iload_n hx hb dX1_price_2 rfl (lv_at hl 0 rfl) ?_
  refine lv_iload_n hx hb dX1_price_3 rfl (lv_at hl 2 rfl) ?_
  refine lv_iadd hx hb dX1_price_4 ?_
  refine lv_istore_n (lv' := [(3, .int ((5 : Int32) + v1)), (2, .int 5), (0, .int v0), (1, .int v1)]) hx hb dX1_price_5 rfl hl (by decide) rfl (fun ls hl => ?_)
  refine lv_iload_n hx hb dX1_price_6 rfl (lv_at hl 1 rfl) ?_
  refine lv_iconst (v := 2) hx hb dX1_price_7 (by decide) ?_
  refine lv_iadd hx hb dX1_price_8 ?_
  refine lv_istore (lv' := [(4, .int ((5 : Int32) + 2)), (3, .int ((5 : Int32) + v1)), (2, .int 5), (0, .int v0), (1, .int v1)]) hx hb dX1_price_9 hl (by decide) rfl (fun ls hl => ?_)
  refine lv_iload_n hx hb dX1_price_11 rfl (lv_at hl 3 rfl) ?_
  by_cases c1 : v0 = (0 : Int32)
  · replace hf := (if_pos c1).symm.trans hf
    refine lv_tableIn (tgt := 60) hx hb dX1_price_12 (by rw [c1]; decide) (by rw [c1]; decide) (by rw [c1]; rfl) (by decide) ?_
    refine lv_iload_n hx hb dX1_price_60 rfl (lv_at hl 2 rfl) ?_
    exact hret _ _ _ dX1_price_61 hf
  · replace hf := (if_neg c1).symm.trans hf
    by_cases c2 : v0 = (2 : Int32)
    · replace hf := (if_pos c2).symm.trans hf
      refine lv_tableIn (tgt := 62) hx hb dX1_price_12 (by rw [c2]; decide) (by rw [c2]; decide) (by rw [c2]; rfl) (by decide) ?_
      refine lv_iload_n hx hb dX1_price_62 rfl (lv_at hl 2 rfl) ?_
      refine lv_iconst (v := 4) hx hb dX1_price_63 (by decide) ?_
      refine lv_isub hx hb dX1_price_64 ?_
      exact hret _ _ _ dX1_price_65 hf
    · replace hf := (if_neg c2).symm.trans hf
      by_cases c3 : v0 = (3 : Int32)
      · replace hf := (if_pos c3).symm.trans hf
        refine lv_tableIn (tgt := 66) hx hb dX1_price_12 (by rw [c3]; decide) (by rw [c3]; decide) (by rw [c3]; rfl) (by decide) ?_
        refine lv_iload_n hx hb dX1_price_66 rfl (lv_at hl 1 rfl) ?_
        refine lv_iconst (v := 1) hx hb dX1_price_67 (by decide) ?_
        refine lv_iadd hx hb dX1_price_68 ?_
        exact hret _ _ _ dX1_price_69 hf
      · replace hf := (if_neg c3).symm.trans hf
        by_cases c4 : v0 = (4 : Int32)
        · replace hf := (if_pos c4).symm.trans hf
          refine lv_tableIn (tgt := 70) hx hb dX1_price_12 (by rw [c4]; decide) (by rw [c4]; decide) (by rw [c4]; rfl) (by decide) ?_
          refine lv_iconst (v := 2) hx hb dX1_price_70 (by decide) ?_
          refine lv_iload_n hx hb dX1_price_71 rfl (lv_at hl 1 rfl) ?_
          refine lv_imul hx hb dX1_price_72 ?_
          exact hret _ _ _ dX1_price_73 hf
        · replace hf := (if_neg c4).symm.trans hf
          by_cases c5 : v0 = (5 : Int32)
          · replace hf := (if_pos c5).symm.trans hf
            refine lv_tableIn (tgt := 74) hx hb dX1_price_12 (by rw [c5]; decide) (by rw [c5]; decide) (by rw [c5]; rfl) (by decide) ?_
            refine lv_iload hx hb dX1_price_74 (lv_at hl 0 rfl) ?_
            exact hret _ _ _ dX1_price_76 hf
          · replace hf := (if_neg c5).symm.trans hf
            by_cases c6 : v0 = (6 : Int32)
            · replace hf := (if_pos c6).symm.trans hf
              refine lv_tableIn (tgt := 77) hx hb dX1_price_12 (by rw [c6]; decide) (by rw [c6]; decide) (by rw [c6]; rfl) (by decide) ?_
              refine lv_iload_n hx hb dX1_price_77 rfl (lv_at hl 1 rfl) ?_
              refine lv_iconst (v := 1) hx hb dX1_price_78 (by decide) ?_
              refine lv_isub hx hb dX1_price_79 ?_
              exact hret _ _ _ dX1_price_80 hf
            · replace hf := (if_neg c6).symm.trans hf
              by_cases c7 : v0 = (7 : Int32)
              · replace hf := (if_pos c7).symm.trans hf
                refine lv_tableIn (tgt := 81) hx hb dX1_price_12 (by rw [c7]; decide) (by rw [c7]; decide) (by rw [c7]; rfl) (by decide) ?_
                refine lv_iload hx hb dX1_price_81 (lv_at hl 0 rfl) ?_
                refine lv_iconst (v := 2) hx hb dX1_price_83 (by decide) ?_
                refine lv_idiv hx hb dX1_price_84 (by decide) ?_
                exact hret _ _ _ dX1_price_85 hf
              · replace hf := (if_neg c7).symm.trans hf
                refine r_tabD (tgt := 86) hx hb dX1_price_12 rfl (fun j hj => ?_) (by decide) ?_
                · replace hj : j < 8 := hj
                  rcases (show j = 0 ∨ j = 1 ∨ j = 2 ∨ j = 3 ∨ j = 4 ∨ j = 5 ∨ j = 6 ∨ j = 7 by omega) with rfl | rfl | rfl | rfl | rfl | rfl | rfl | rfl
                  · exact Or.inr (lv_neT c1 rfl)
                  · exact Or.inl rfl
                  · exact Or.inr (lv_neT c2 rfl)
                  · exact Or.inr (lv_neT c3 rfl)
                  · exact Or.inr (lv_neT c4 rfl)
                  · exact Or.inr (lv_neT c5 rfl)
                  · exact Or.inr (lv_neT c6 rfl)
                  · exact Or.inr (lv_neT c7 rfl)
                refine lv_iload_n hx hb dX1_price_86 rfl (lv_at hl 1 rfl) ?_
                exact hret _ _ _ dX1_price_87 hf
