/-! EXCEPTIONS. What a thrower needs of the machine: face words, two statics of Throwable, the texts, what isn't castable. -/
def LF : List Cond := lw_tbl.filter (fun w => w.onTables && w.keepsFace)
def FW (U : State) : Prop := ∀ w ∈ LF, w.before #[] U = true
theorem lf_any {w : Cond} (h : w ∈ LF) {a a' : Array Value} {s U : State} (hW : s.WarmedH U.vm) (hw : w.before a s = true) : w.before a' U = true := by
  have h2 := (List.mem_filter.mp h).2
  simp only [Bool.and_eq_true] at h2
  have h1 : w.before a (s.setVm U.vm) = true := Cond.before_shiftedFace (State.Shifted.of_warmed hW) _ h2.2 hw
  have e := Cond.onTables_vm (A := a') (A' := a) (U := U) (U' := s) U.vm w h2.1
  rw [State.setVm_self] at e
  rw [e]
  exact h1
theorem lf_same {w : Cond} (h : w ∈ LF) {a a' : Array Value} {s U : State} (hv : U.vm = s.vm) (hw : w.before a s = true) : w.before a' U = true := by
  have h2 := (List.mem_filter.mp h).2
  simp only [Bool.and_eq_true] at h2
  have e := Cond.onTables_vm (A := a') (A' := a) (U := U) (U' := s) s.vm w h2.1
  rw [State.setVm_self] at e
  have e2 : U.setVm s.vm = U := by rw [← hv]; exact State.setVm_self _
  rw [e2] at e
  rw [e]
  exact hw
theorem lf_in {w : Cond} (h : w ∈ lw_tbl) (hg : (w.onTables && w.keepsFace) = true) : w ∈ LF := List.mem_filter.mpr ⟨h, hg⟩
abbrev cUOE : String := "java/lang/UnsupportedOperationException"
abbrev cISE : String := "java/lang/IllegalStateException"
abbrev cIAE : String := "java/lang/IllegalArgumentException"
def XP (hs : Nat) (U : State) : Prop := FW U ∧ (vx_Zq Bundle.tN "UNASSIGNED_STACK" Bundle.steD (fun q => hs ≤ q) U U.heap ∧ vx_Zq Bundle.tN "SUPPRESSED_SENTINEL" Bundle.listD (fun q => hs ≤ q) U U.heap) ∧ ((∃ a, vk_R RX1 36 "a curtain fails" a U) ∧ (∃ a, vk_R RX1 45 "a painted one fails" a U) ∧ ∃ a, vk_R RX1 48 "a window fails" a U) ∧ ((∃ a, vk_R RX9 314 "no such shelf" a U) ∧ (∃ a, vk_R RX9 321 "no row" a U) ∧ ∃ a, vk_R RX9 324 "no such place" a U) ∧ va_Nc cISE cUOE U ∧ va_Nc cIAE cUOE U ∧ va_Nc cIAE cISE U ∧ va_Nc cISE cIAE U
theorem XP.warm {hs : Nat} {s U : State} (hW : s.WarmedH U.vm) (hk : ∀ q : Nat, q < s.heap.size → ¬ hs ≤ q → U.heap[q]? = s.heap[q]?) (h : XP hs s) : XP hs U := by
  obtain ⟨h1, ⟨h2, h3⟩, ⟨⟨a1, g1⟩, ⟨a2, g2⟩, ⟨a3, g3⟩⟩, ⟨⟨a4, g4⟩, ⟨a5, g5⟩, ⟨a6, g6⟩⟩, n1, n2, n3, n4⟩ := h
  exact ⟨fun w hw => lf_any hw hW (h1 w hw), ⟨vx_Zq.kept (vx_Zq.moved hW.alike h2) hk, vx_Zq.kept (vx_Zq.moved hW.alike h3) hk⟩, ⟨⟨a1, vk_R.warm hW g1⟩, ⟨a2, vk_R.warm hW g2⟩, ⟨a3, vk_R.warm hW g3⟩⟩, ⟨⟨a4, vk_R.warm hW g4⟩, ⟨a5, vk_R.warm hW g5⟩, ⟨a6, vk_R.warm hW g6⟩⟩, va_Nc.moved hW.alike n1, va_Nc.moved hW.alike n2, va_Nc.moved hW.alike n3, va_Nc.moved hW.alike n4⟩
theorem XP.same {hs : Nat} {s U : State} (hv : U.vm = s.vm) (hh : U.heap = s.heap) (h : XP hs s) : XP hs U := by
  have ha : s.vm.Alike U.vm := by rw [hv]; exact Vm.Alike.refl _
  obtain ⟨h1, ⟨h2, h3⟩, ⟨⟨a1, g1⟩, ⟨a2, g2⟩, ⟨a3, g3⟩⟩, ⟨⟨a4, g4⟩, ⟨a5, g5⟩, ⟨a6, g6⟩⟩, n1, n2, n3, n4⟩ := h
  exact ⟨fun w hw => lf_same hw hv (h1 w hw), ⟨by rw [hh]; exact vx_Zq.moved ha h2, by rw [hh]; exact vx_Zq.moved ha h3⟩, ⟨⟨a1, vk_R.same hv g1⟩, ⟨a2, vk_R.same hv g2⟩, ⟨a3, vk_R.same hv g3⟩⟩, ⟨⟨a4, vk_R.same hv g4⟩, ⟨a5, vk_R.same hv g5⟩, ⟨a6, vk_R.same hv g6⟩⟩, va_Nc.moved ha n1, va_Nc.moved ha n2, va_Nc.moved ha n3, va_Nc.moved ha n4⟩
def PcX (G : GD) (ρ : Rho) (hs : Nat) (as : List Value) : Array Value → State → Prop := va_Pc as (fun U => RW G ρ U.heap ∧ KW G U ∧ XP hs U)
theorem PcX_blind (G : GD) (ρ : Rho) (hs : Nat) (as : List Value) : FrameBlind (PcX G ρ hs as) := fun a U g mk h => ⟨h.1, h.2.1, va_K.moved (u := U) (U := U.calling g mk a) (Vm.Alike.refl U.vm) h.2.2.1, XP.same (s := U) (U := U.calling g mk a) rfl rfl h.2.2.2⟩
theorem x_pre {G : GD} {ρ : Rho} {hs : Nat} {s U : State} (hK : KW G s) (hR : RW G ρ U.heap) (hX : XP hs s) (hk : ∀ q : Nat, q < s.heap.size → ¬ hs ≤ q → U.heap[q]? = s.heap[q]?) (as : List Value) (hW : s.WarmedH U.vm) : PcX G ρ hs as as.toArray U := ⟨rfl, hR, va_K.moved hW.alike hK, hX.warm hW hk⟩
/-- behind a throw: the heap is longer, what was there is as it was -/
def XQ (E : String) (st t : State) : Prop := st.heap.size ≤ t.heap.size ∧ ∀ q : Nat, q < st.heap.size → t.heap[q]? = st.heap[q]?
def eNm (k : Nat) : String := if k = 1 then cUOE else if k = 2 then cISE else cIAE
def fX1_throwFailure (ρ : Rho) (v0 : Int32) (v1 : Int32) : Option Nat :=
    if v0 = 2 then (some 0)
    else (if v0 = 7 then (some 0)
    else (if v1 = 0 then (some 0)
    else (if v0 = 4 then (some 1)
    else ((fX1_isPainted ρ v0).bind fun x5 =>
    if x5 = 0 then (some 3)
    else (some 2)))))
abbrev rX1_throwFailure : Room := { frames := 8, cells := 1, slots := 6, locals := 100 }
theorem hdX1_throwFailure : hdP yX1_throwFailure 2 := by unfold hdP; decide +kernel
set_option maxHeartbeats 4000000 in
set_option maxRecDepth 100000 in
theorem bX1_throwFailure {p : Program} {l : Launch} {e : Env} {s : State} {m : MethodId} {args : Array Value} {below : List Frame} {meth : Method} {c : Code} {H : Heap} {locs : List Loc} {Q : State → Prop} {G : GD} (ρ : Rho) (v0 : Int32) (v1 : Int32) (r : Nat) (hf : fX1_throwFailure ρ v0 v1 = some r) (hx : p.tables.exec = Jvm.exec) (hb : c.code = cX1_throwFailure) (hml : c.maxLocals = 2) (hown : s.vm.findClass RX1 = some m.cls) (hts : ∀ w ∈ LW, w.before args s = true) (hK : KW G s) (hR : RW G ρ H)
    (hret : ∀ (pc : Nat) (ls : Array Slot), decode cX1_throwFailure pc = .ok (.return_, 1) → some 0 = some r → W p l e rX1_throwFailure s m args below meth c H locs 0 0 Q (F0 m pc ls [])) (hthr21 : ∀ ls : Array Slot, ls.size = 2 → some 1 = some r → W p l e rX1_throwFailure s m args below meth c H locs 0 0 Q (F0 m 21 ls [])) (hthr38 : ∀ ls : Array Slot, ls.size = 2 → some 2 = some r → W p l e rX1_throwFailure s m args below meth c H locs 0 0 Q (F0 m 38 ls [])) (hthr48 : ∀ ls : Array Slot, ls.size = 2 → some 3 = some r → W p l e rX1_throwFailure s m args below meth c H locs 0 0 Q (F0 m 48 ls [])) (ls : Array Slot) (hl : lv_has ls 2 [(0, .int v0), (1, .int v1)]) : W p l e rX1_throwFailure s m args below meth c H locs 0 0 Q (F0 m 0 ls []) := by
  unfold fX1_throwFailure at hf
  refine lv_iload_n hx hb dX1_throwFailure_0 rfl (lv_at hl 0 rfl) ?_
  refine lv_iconst (v := 2) hx hb dX1_throwFailure_1 (by decide) ?_
  refine lv_icmp_eq (tgt := 15) hx hb dX1_throwFailure_2 (by decide) (fun c1 => ?_) (fun c1 => ?_)
  · replace hf := (if_pos c1).symm.trans hf
    exact hret _ _ dX1_throwFailure_15 hf
  · replace hf := (if_neg c1).symm.trans hf
    refine lv_iload_n hx hb dX1_throwFailure_5 rfl (lv_at hl 0 rfl) ?_
    refine lv_bipush (v := 7) hx hb dX1_throwFailure_6 (by decide) ?_
    refine lv_icmp_eq (tgt := 15) hx hb dX1_throwFailure_8 (by decide) (fun c2 => ?_) (fun c2 => ?_)
    · replace hf := (if_pos c2).symm.trans hf
      exact hret _ _ dX1_throwFailure_15 hf
    · replace hf := (if_neg c2).symm.trans hf
      refine lv_iload_n hx hb dX1_throwFailure_11 rfl (lv_at hl 1 rfl) ?_
      refine lv_if_ne (tgt := 16) hx hb dX1_throwFailure_12 (by decide) (fun c3 => ?_) (fun c3 => ?_)
      · replace hf := (if_neg c3).symm.trans hf
        refine lv_iload_n hx hb dX1_throwFailure_16 rfl (lv_at hl 0 rfl) ?_
        refine lv_iconst (v := 4) hx hb dX1_throwFailure_17 (by decide) ?_
        refine lv_icmp_ne (tgt := 31) hx hb dX1_throwFailure_18 (by decide) (fun c4 => ?_) (fun c4 => ?_)
        · replace hf := (if_neg c4).symm.trans hf
          refine lv_iload_n hx hb dX1_throwFailure_31 rfl (lv_at hl 0 rfl) ?_
          obtain ⟨x5, h5, hf⟩ := Option.bind_eq_some_iff.mp hf
          refine r_callS (As := [.int v0]) (rest := []) (st1 := [.int x5]) ⟨hx, hb, hml, hown, hts⟩ (kX1_isPainted l G ρ v0 _ h5) (cu_S hts tw_3_18 tw_4_56 tw_3_17 tw_1_7 hdX1_isPainted rfl rfl ⟨(Nat.le_of_ble_eq_true rfl), (Nat.le_of_ble_eq_true rfl)⟩) hK hR rfl hl.1 rfl (Nat.le_of_ble_eq_true rfl) dX1_throwFailure_32 ⟨Nat.zero_le _, Nat.zero_le _⟩ rfl ?_
          refine lv_if_eq (tgt := 48) hx hb dX1_throwFailure_35 (by decide) (fun c6 => ?_) (fun c6 => ?_)
          · replace hf := (if_pos c6).symm.trans hf
            exact hthr48 ls hl.1 hf
          · replace hf := (if_neg c6).symm.trans hf
            exact hthr38 ls hl.1 hf
        · replace hf := (if_pos c4).symm.trans hf
          exact hthr21 ls hl.1 hf
      · replace hf := (if_pos c3).symm.trans hf
        exact hret _ _ dX1_throwFailure_15 hf
def fX9_element (ρ : Rho) (v0 : Nat) (v1 : Int32) (v2 : Int32) : Option (Int64 ⊕ Nat) :=
    (fX9_isShelf ρ v1).bind fun x1 =>
    if x1 = 0 then (some (.inr 3))
    else ((gR ρ 2 v0 3).bind fun x3 =>
    (ldR ρ x3 v1).bind fun x4 =>
    (ckO ρ 1 x4).bind fun x5 =>
    (fX6_refusalAsRow ρ x4).bind fun x6 =>
    if (0 : Int32) ≤ x6 then ((ckO ρ 1 x4).bind fun x8 =>
    (fX6_isPlace ρ x4 v2).bind fun x9 =>
    if x9 = 0 then (some (.inr 2))
    else ((gR ρ 1 x4 5).bind fun x11 =>
    (ldI ρ x11 v2).bind fun x12 =>
    some (.inl (Int32.toInt64 x12))))
    else (some (.inr 2)))
abbrev rX9_element : Room := { frames := 8, cells := 1, slots := 6, locals := 100 }
theorem hdX9_element : hdP yX9_element 2 := by unfold hdP; decide +kernel
set_option maxHeartbeats 4000000 in
set_option maxRecDepth 100000 in
theorem bX9_element {p : Program} {l : Launch} {e : Env} {s : State} {m : MethodId} {args : Array Value} {below : List Frame} {meth : Method} {c : Code} {H : Heap} {locs : List Loc} {Q : State → Prop} {G : GD} (ρ : Rho) (v0 : Nat) (v1 : Int32) (v2 : Int32) (r : (Int64 ⊕ Nat)) (hf : fX9_element ρ v0 v1 v2 = some r) (hx : p.tables.exec = Jvm.exec) (hb : c.code = cX9_element) (hml : c.maxLocals = 4) (hown : s.vm.findClass RX9 = some m.cls) (hts : ∀ w ∈ LW, w.before args s = true) (hK : KW G s) (hR : RW G ρ H)
    (hret : ∀ (pc : Nat) (ls : Array Slot) (v : Int64), decode cX9_element pc = .ok (.lreturn, 1) → some (.inl v) = some r → W p l e rX9_element s m args below meth c H locs 0 0 Q (F0 m pc ls [.long v])) (hthr7 : ∀ ls : Array Slot, ls.size = 4 → some (.inr 3) = some r → W p l e rX9_element s m args below meth c H locs 0 0 Q (F0 m 7 ls [])) (hthr32 : ∀ ls : Array Slot, ls.size = 4 → some (.inr 2) = some r → W p l e rX9_element s m args below meth c H locs 0 0 Q (F0 m 32 ls [])) (hthr51 : ∀ ls : Array Slot, ls.size = 4 → some (.inr 2) = some r → W p l e rX9_element s m args below meth c H locs 0 0 Q (F0 m 51 ls [])) (ls : Array Slot) (hl : lv_has ls 4 [(0, .ref v0), (1, .int v1), (2, .int v2)]) : W p l e rX9_element s m args below meth c H locs 0 0 Q (F0 m 0 ls []) := by
  unfold fX9_element at hf
  refine lv_iload_n hx hb dX9_element_0 rfl (lv_at hl 1 rfl) ?_
  obtain ⟨x1, h1, hf⟩ := Option.bind_eq_some_iff.mp hf
  refine r_callS (As := [.int v1]) (rest := []) (st1 := [.int x1]) ⟨hx, hb, hml, hown, hts⟩ (kX9_isShelf l G ρ v1 _ h1) (cu_S hts tw_1_154 tw_1_152 tw_1_153 tw_1_1 hdX9_isShelf rfl rfl ⟨(Nat.le_of_ble_eq_true rfl), (Nat.le_of_ble_eq_true rfl)⟩) hK hR rfl hl.1 rfl (Nat.le_of_ble_eq_true rfl) dX9_element_1 ⟨Nat.zero_le _, Nat.zero_le _⟩ rfl ?_
  refine lv_if_ne (tgt := 18) hx hb dX9_element_4 (by decide) (fun c2 => ?_) (fun c2 => ?_)
  · replace hf := (if_neg c2).symm.trans hf
    refine lv_aload_n hx hb dX9_element_18 rfl (lv_at hl 0 rfl) ?_
    obtain ⟨x3, h3, hf⟩ := Option.bind_eq_some_iff.mp hf
    refine r_gR hx hb hts inX9 hown hK hR rfl 3 (by decide) (hts _ tw_1_135) h3 dX9_element_19 ?_
    refine lv_iload_n hx hb dX9_element_22 rfl (lv_at hl 1 rfl) ?_
    obtain ⟨x4, h4, hf⟩ := Option.bind_eq_some_iff.mp hf
    refine r_ldR hx hb hK hR h4 dX9_element_23 ?_
    refine lv_astore_n (lv' := [(3, .ref x4), (0, .ref v0), (1, .int v1), (2, .int v2)]) hx hb dX9_element_24 rfl hl (by decide) rfl (fun ls hl => ?_)
    refine lv_aload_n hx hb dX9_element_25 rfl (lv_at hl 0 rfl) ?_
    obtain ⟨x5, h5, hf⟩ := Option.bind_eq_some_iff.mp hf
    obtain ⟨x6, h6, hf⟩ := Option.bind_eq_some_iff.mp hf
    refine r_callV (As := []) (rest := []) (st1 := [.int x6]) ⟨hx, hb, hml, hown, hts⟩ (kX6_refusalAsRow l G ρ x4 _ h6) (cu_V hts tw_1_158 tw_1_155 tw_1_156 tw_1_157 tw_1_3 hdX6_refusalAsRow rfl rfl ⟨(Nat.le_of_ble_eq_true rfl), (Nat.le_of_ble_eq_true rfl)⟩) hK hR rfl h5 rfl hl.1 rfl (Nat.le_of_ble_eq_true rfl) dX9_element_26 ⟨Nat.zero_le _, Nat.zero_le _⟩ rfl ?_
    refine lv_if_ge (tgt := 43) hx hb dX9_element_29 (by decide) (fun c7 => ?_) (fun c7 => ?_)
    · replace hf := (if_pos c7).symm.trans hf
      refine lv_aload_n hx hb dX9_element_43 rfl (lv_at hl 0 rfl) ?_
      refine lv_iload_n hx hb dX9_element_44 rfl (lv_at hl 3 rfl) ?_
      obtain ⟨x8, h8, hf⟩ := Option.bind_eq_some_iff.mp hf
      obtain ⟨x9, h9, hf⟩ := Option.bind_eq_some_iff.mp hf
      refine r_callV (As := [.int v2]) (rest := []) (st1 := [.int x9]) ⟨hx, hb, hml, hown, hts⟩ (kX6_isPlace l G ρ x4 v2 _ h9) (cu_V hts tw_1_168 tw_3_195 tw_1_166 tw_1_167 tw_1_3 hdX6_isPlace rfl rfl ⟨(Nat.le_of_ble_eq_true rfl), (Nat.le_of_ble_eq_true rfl)⟩) hK hR rfl h8 rfl hl.1 rfl (Nat.le_of_ble_eq_true rfl) dX9_element_45 ⟨Nat.zero_le _, Nat.zero_le _⟩ rfl ?_
      refine lv_if_ne (tgt := 62) hx hb dX9_element_48 (by decide) (fun c10 => ?_) (fun c10 => ?_)
      · replace hf := (if_neg c10).symm.trans hf
        refine lv_aload_n hx hb dX9_element_62 rfl (lv_at hl 0 rfl) ?_
        obtain ⟨x11, h11, hf⟩ := Option.bind_eq_some_iff.mp hf
        refine r_gR hx hb hts inX6 hown hK hR rfl 5 (by decide) (hts _ tw_1_118) h11 dX9_element_63 ?_
        refine lv_iload_n hx hb dX9_element_66 rfl (lv_at hl 3 rfl) ?_
        obtain ⟨x12, h12, hf⟩ := Option.bind_eq_some_iff.mp hf
        refine r_ldI hx hb hK hR h12 dX9_element_67 ?_
        refine lv_i2l (v := (Int32.toInt64 x12)) hx hb dX9_element_68 rfl ?_
        exact hret _ _ _ dX9_element_69 hf
      · replace hf := (if_pos c10).symm.trans hf
        exact hthr51 ls hl.1 hf
    · replace hf := (if_neg c7).symm.trans hf
      exact hthr32 ls hl.1 hf
  · replace hf := (if_pos c2).symm.trans hf
    exact hthr7 ls hl.1 hf
theorem at38 : ∀ w ∈ vx_atS RX1 38 cUOE ["java/lang/RuntimeException", "java/lang/Exception"], w ∈ LF := by decide +kernel
theorem at47 : ∀ w ∈ vx_atS RX1 47 cISE ["java/lang/RuntimeException", "java/lang/Exception"], w ∈ LF := by decide +kernel
theorem at50 : ∀ w ∈ vx_atS RX1 50 cIAE ["java/lang/RuntimeException", "java/lang/Exception"], w ∈ LF := by decide +kernel
theorem at316 : ∀ w ∈ vx_atS RX9 316 cIAE ["java/lang/RuntimeException", "java/lang/Exception"], w ∈ LF := by decide +kernel
theorem at323 : ∀ w ∈ vx_atS RX9 323 cISE ["java/lang/RuntimeException", "java/lang/Exception"], w ∈ LF := by decide +kernel
theorem ot38 : ∀ w ∈ Cond.classLink RX1 27 cUOE :: Cond.initialized cUOE :: vx_atS RX1 38 cUOE ["java/lang/RuntimeException", "java/lang/Exception"], vx_ot w = true := by decide +kernel
theorem ot47 : ∀ w ∈ Cond.classLink RX1 32 cISE :: Cond.initialized cISE :: vx_atS RX1 47 cISE ["java/lang/RuntimeException", "java/lang/Exception"], vx_ot w = true := by decide +kernel
theorem ot50 : ∀ w ∈ Cond.classLink RX1 34 cIAE :: Cond.initialized cIAE :: vx_atS RX1 50 cIAE ["java/lang/RuntimeException", "java/lang/Exception"], vx_ot w = true := by decide +kernel
theorem ot316 : ∀ w ∈ Cond.classLink RX9 312 cIAE :: Cond.initialized cIAE :: vx_atS RX9 316 cIAE ["java/lang/RuntimeException", "java/lang/Exception"], vx_ot w = true := by decide +kernel
theorem ot323 : ∀ w ∈ Cond.classLink RX9 319 cISE :: Cond.initialized cISE :: vx_atS RX9 323 cISE ["java/lang/RuntimeException", "java/lang/Exception"], vx_ot w = true := by decide +kernel
/-- throwFailure: returns (0), or throws the class of that number -/
def QtF (r : Nat) : Array Value → State → Outcome → State → Prop := fun _ st o t => o = .returned none ∧ t.heap = st.heap ∧ r = 0
def XtF (r : Nat) : String → State → State → Prop := fun E st t => (E = eNm r ∧ (r = 1 ∨ r = 2 ∨ r = 3)) ∧ st.heap.size ≤ t.heap.size ∧ ∀ q : Nat, q < st.heap.size → t.heap[q]? = st.heap[q]?
set_option maxHeartbeats 4000000 in
set_option maxRecDepth 100000 in
theorem kX1_throwFailure (l : Launch) (hfl : l.stackTraces = false) (G : GD) (ρ : Rho) (hs : Nat) (v0 v1 : Int32) (r : Nat) (hf : fX1_throwFailure ρ v0 v1 = some r) : vx_Met l yX1_throwFailure (Cond.code yX1_throwFailure cX1_throwFailure 2 none :: LW) rX1_throwFailure (PcX G ρ hs [.int v0, .int v1]) (QtF r) (XtF r) 1 6 (fun _ => False) := by
  refine vx_ofW (cc := cX1_throwFailure) (maxL := 2) (ret := none) (by decide) rfl ?_
  intro p e s m args below meth c s₁ B hml hno hv
  obtain ⟨rfl, hR, hK, hF, ⟨hU, hN⟩, ⟨⟨a1, g1⟩, ⟨a2, g2⟩, ⟨a3, g3⟩⟩, -⟩ := hv
  have hts0 := atoms_spec (ws := Cond.code yX1_throwFailure cX1_throwFailure 2 none :: LW) B.pre
  have hts : ∀ w ∈ LW, w.before _ s = true := fun w hw => hts0 w (List.mem_cons_of_mem _ hw)
  have hown : s.vm.findClass RX1 = some m.cls := findClass_of_methodNamed B.named
  have hlk := B.notSynchronized
  have hx := B.exec
  have hb := B.bytes
  have hr := B.returns
  have hFa : ∀ w ∈ LF, w.before ([Value.int v0, Value.int v1] : List Value).toArray s = true := fun w hw => lf_same hw rfl (hF w hw)
  rw [lg_entry_eq]
  refine bX1_throwFailure (G := G) ρ v0 v1 r hf hx hb hml hown hts hK hR ?_ ?_ ?_ ?_ _ (lv_entry _ (Nat.le_of_ble_eq_true rfl))
  · intro pc ls hd h0
    cases h0
    refine vx_ret ?_
    refine W.widen (k := 1) (n := 6) (Nat.zero_le _) (Nat.zero_le _) ?_
    exact W.vret hx hb hr (fun t ht _ => ⟨rfl, ht, rfl⟩) (fun q h => absurd h List.not_mem_nil) hd
  · intro ls hz h0
    cases h0
    exact vx_throwS (cls := cUOE) (names := ["java/lang/RuntimeException", "java/lang/Exception"]) hx hb hfl hown (by decide +kernel) (by decide +kernel) (hts _ tw_3_223) (hts _ tw_1_20) g1 (fun w hw => hFa w (at38 w hw)) ot38 hU hN va_S.rf (hz.trans hml.symm) dX1_throwFailure_21 dX1_throwFailure_24 dX1_throwFailure_25 dX1_throwFailure_27 dX1_throwFailure_30 (fun x hx => (hno x hx).elim) (Nat.le_of_ble_eq_true rfl) (Nat.le_of_ble_eq_true rfl) (Nat.le_of_ble_eq_true rfl) (Nat.le_of_ble_eq_true rfl) hlk (fun t _ h1 h2 => ⟨⟨rfl, Or.inl rfl⟩, h1, h2⟩) (fun q h => absurd h List.not_mem_nil) (Nat.le_refl _) (Nat.le_refl _)
  · intro ls hz h0
    cases h0
    exact vx_throwS (cls := cISE) (names := ["java/lang/RuntimeException", "java/lang/Exception"]) hx hb hfl hown (by decide +kernel) (by decide +kernel) (hts _ tw_3_224) (hts _ tw_1_19) g2 (fun w hw => hFa w (at47 w hw)) ot47 hU hN va_S.rf (hz.trans hml.symm) dX1_throwFailure_38 dX1_throwFailure_41 dX1_throwFailure_42 dX1_throwFailure_44 dX1_throwFailure_47 (fun x hx => (hno x hx).elim) (Nat.le_of_ble_eq_true rfl) (Nat.le_of_ble_eq_true rfl) (Nat.le_of_ble_eq_true rfl) (Nat.le_of_ble_eq_true rfl) hlk (fun t _ h1 h2 => ⟨⟨rfl, Or.inr (Or.inl rfl)⟩, h1, h2⟩) (fun q h => absurd h List.not_mem_nil) (Nat.le_refl _) (Nat.le_refl _)
  · intro ls hz h0
    cases h0
    exact vx_throwS (cls := cIAE) (names := ["java/lang/RuntimeException", "java/lang/Exception"]) hx hb hfl hown (by decide +kernel) (by decide +kernel) (hts _ tw_3_225) (hts _ tw_1_18) g3 (fun w hw => hFa w (at50 w hw)) ot50 hU hN va_S.rf (hz.trans hml.symm) dX1_throwFailure_48 dX1_throwFailure_51 dX1_throwFailure_52 dX1_throwFailure_54 dX1_throwFailure_57 (fun x hx => (hno x hx).elim) (Nat.le_of_ble_eq_true rfl) (Nat.le_of_ble_eq_true rfl) (Nat.le_of_ble_eq_true rfl) (Nat.le_of_ble_eq_true rfl) hlk (fun t _ h1 h2 => ⟨⟨rfl, Or.inr (Or.inr rfl)⟩, h1, h2⟩) (fun q h => absurd h List.not_mem_nil) (Nat.le_refl _) (Nat.le_refl _)
/-- X9.element: an answer, or a throw of that class -/
def QtE (r : Int64 ⊕ Nat) : Array Value → State → Outcome → State → Prop := fun _ st o t => ∃ v : Int64, o = .returned (some (.long v)) ∧ t.heap = st.heap ∧ r = .inl v
def XtE (r : Int64 ⊕ Nat) : String → State → State → Prop := fun E st t => (∃ k, r = .inr k ∧ E = eNm k ∧ (k = 2 ∨ k = 3)) ∧ st.heap.size ≤ t.heap.size ∧ ∀ q : Nat, q < st.heap.size → t.heap[q]? = st.heap[q]?
set_option maxHeartbeats 4000000 in
set_option maxRecDepth 100000 in
theorem kX9_element (l : Launch) (hfl : l.stackTraces = false) (G : GD) (ρ : Rho) (hs : Nat) (v0 : Nat) (v1 v2 : Int32) (r : Int64 ⊕ Nat) (hf : fX9_element ρ v0 v1 v2 = some r) : vx_Met l yX9_element (Cond.code yX9_element cX9_element 4 (some .long) :: LW) rX9_element (PcX G ρ hs [.ref v0, .int v1, .int v2]) (QtE r) (XtE r) 1 6 (fun _ => False) := by
  refine vx_ofW (cc := cX9_element) (maxL := 4) (ret := some .long) (by decide) rfl ?_
  intro p e s m args below meth c s₁ B hml hno hv
  obtain ⟨rfl, hR, hK, hF, ⟨hU, hN⟩, -, ⟨⟨a1, g1⟩, ⟨a2, g2⟩, ⟨a3, g3⟩⟩, -⟩ := hv
  have hts0 := atoms_spec (ws := Cond.code yX9_element cX9_element 4 (some .long) :: LW) B.pre
  have hts : ∀ w ∈ LW, w.before _ s = true := fun w hw => hts0 w (List.mem_cons_of_mem _ hw)
  have hown : s.vm.findClass RX9 = some m.cls := findClass_of_methodNamed B.named
  have hlk := B.notSynchronized
  have hx := B.exec
  have hb := B.bytes
  have hr := B.returns
  have hFa : ∀ w ∈ LF, w.before ([Value.ref v0, Value.int v1, Value.int v2] : List Value).toArray s = true := fun w hw => lf_same hw rfl (hF w hw)
  rw [lg_entry_eq]
  refine bX9_element (G := G) ρ v0 v1 v2 r hf hx hb hml hown hts hK hR ?_ ?_ ?_ ?_ _ (lv_entry _ (Nat.le_of_ble_eq_true rfl))
  · intro pc ls v hd h0
    cases h0
    refine vx_ret ?_
    refine W.widen (k := 1) (n := 6) (Nat.zero_le _) (Nat.zero_le _) ?_
    exact W.lret hx hb hr (fun t ht _ => ⟨_, rfl, ht, rfl⟩) (fun q h => absurd h List.not_mem_nil) hd
  · intro ls hz h0
    cases h0
    exact vx_throwSW (cls := cIAE) (names := ["java/lang/RuntimeException", "java/lang/Exception"]) hx hb hfl hown (by decide +kernel) (by decide +kernel) (hts _ tw_4_97) (hts _ tw_1_18) g1 (fun w hw => hFa w (at316 w hw)) ot316 hU hN va_S.rf (hz.trans hml.symm) dX9_element_7 dX9_element_10 dX9_element_11 dX9_element_14 dX9_element_17 (fun x hx => (hno x hx).elim) (Nat.le_of_ble_eq_true rfl) (Nat.le_of_ble_eq_true rfl) (Nat.le_of_ble_eq_true rfl) (Nat.le_of_ble_eq_true rfl) hlk (fun t _ h1 h2 => ⟨⟨_, rfl, rfl, Or.inr rfl⟩, h1, h2⟩) (fun q h => absurd h List.not_mem_nil) (Nat.le_refl _) (Nat.le_refl _)
  · intro ls hz h0
    cases h0
    exact vx_throwSW (cls := cISE) (names := ["java/lang/RuntimeException", "java/lang/Exception"]) hx hb hfl hown (by decide +kernel) (by decide +kernel) (hts _ tw_4_100) (hts _ tw_1_19) g2 (fun w hw => hFa w (at323 w hw)) ot323 hU hN va_S.rf (hz.trans hml.symm) dX9_element_32 dX9_element_35 dX9_element_36 dX9_element_39 dX9_element_42 (fun x hx => (hno x hx).elim) (Nat.le_of_ble_eq_true rfl) (Nat.le_of_ble_eq_true rfl) (Nat.le_of_ble_eq_true rfl) (Nat.le_of_ble_eq_true rfl) hlk (fun t _ h1 h2 => ⟨⟨_, rfl, rfl, Or.inl rfl⟩, h1, h2⟩) (fun q h => absurd h List.not_mem_nil) (Nat.le_refl _) (Nat.le_refl _)
  · intro ls hz h0
    cases h0
    exact vx_throwSW (cls := cISE) (names := ["java/lang/RuntimeException", "java/lang/Exception"]) hx hb hfl hown (by decide +kernel) (by decide +kernel) (hts _ tw_4_100) (hts _ tw_1_19) g3 (fun w hw => hFa w (at323 w hw)) ot323 hU hN va_S.rf (hz.trans hml.symm) dX9_element_51 dX9_element_54 dX9_element_55 dX9_element_58 dX9_element_61 (fun x hx => (hno x hx).elim) (Nat.le_of_ble_eq_true rfl) (Nat.le_of_ble_eq_true rfl) (Nat.le_of_ble_eq_true rfl) (Nat.le_of_ble_eq_true rfl) hlk (fun t _ h1 h2 => ⟨⟨_, rfl, rfl, Or.inl rfl⟩, h1, h2⟩) (fun q h => absurd h List.not_mem_nil) (Nat.le_refl _) (Nat.le_refl _)
