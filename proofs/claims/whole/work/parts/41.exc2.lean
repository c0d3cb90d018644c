/-! EXCEPTIONS, CAUGHT: caughtFailure, toss, the law's element. -/
theorem Met.ofWH {l : Launch} {y : MethodName} {ws ws' : List Cond} {rm : Room} {Pc : Array Value → State → Prop} {Qc : Array Value → State → Outcome → State → Prop} {mc ms : Nat} {free : Addr → Prop} {cc : ByteArray} {maxL : Nat} {ret : Option FieldType} {hh : List (Nat × Nat × Nat × Nat)}
    (hy : plainName y.cls = true) (hw : ws = Cond.codeWith y cc maxL ret hh :: ws')
    (body : ∀ p e s m args below meth c s₁, BodyLoose p l y (headSpec ws rm) cc maxL ret e s m args below meth c s₁ → c.maxLocals = maxL → Pc args s →
      W p l e (headSpec ws rm).room s m args below meth c s.heap [] 0 0 (MQ below Qc args s mc ms free) (entryFrame m args maxL)) : Met l y ws rm Pc Qc mc ms free := by
  refine MetFree.of_bodyS (code := cc) (maxLocals := maxL) (ret := ret) hy ?_ ?_
  · intro args s m h hn
    obtain ⟨m9, meth, c, hn9, h1, h2, h3, h4, -, h5, h6, -⟩ := Cond.codeWith_spec (atoms_spec (ws := ws) h _ (by rw [hw]; exact List.mem_cons_self))
    cases hn.symm.trans hn9
    exact ⟨meth, c, h1, h2, h3, h4, h5, h6⟩
  · intro p e s m args below meth c s₁ B hml hP _
    have hh0 : s₁.heap = s.heap := by rw [B.state]; rfl
    obtain ⟨t, a1, o, b1, b2, b3⟩ := body p e s m args below meth c s₁ B hml hP s₁ hh0 (Stand.of_body B)
    exact ⟨t, o, a1, b1, b2, ⟨b3.1, b3.2⟩⟩
theorem RW.keep {G : GD} {ρ : Rho} {H H1 : Heap} (h : RW G ρ H) (hk : ∀ q : Nat, q < H.size → H1[q]? = H[q]?) : RW G ρ H1 := fun a c hc => (h a c hc).kept (hk a (h a c hc).lt)
/-- a method that reads, and may leave new cells behind -/
def EQ (r : Option Value) : Array Value → State → Outcome → State → Prop := fun _ st o t => o = .returned r ∧ st.heap.size ≤ t.heap.size ∧ ∀ q : Nat, q < st.heap.size → t.heap[q]? = st.heap[q]?
def EM (l : Launch) (G : GD) (y : MethodName) (ws : List Cond) (rm : Room) (ρ : Rho) (hs : Nat) (as : List Value) (r : Option Value) : Prop := Met l y ws rm (PcX G ρ hs as) (EQ r) 1 6 (fun _ => False)
/-- a method that writes, and may leave new cells behind -/
def FQ (G : GD) (ρ : Rho) (r : Option Value) (ρ' : Rho) : Array Value → State → Outcome → State → Prop := fun _ st o t => o = .returned r ∧ RW G ρ' t.heap ∧ st.heap.size ≤ t.heap.size ∧ (∀ q, ρ' q ≠ none → ρ q ≠ none) ∧ ∀ q : Nat, q < st.heap.size → ρ q = none → t.heap[q]? = st.heap[q]?
def FM (l : Launch) (G : GD) (y : MethodName) (ws : List Cond) (rm : Room) (ρ : Rho) (hs : Nat) (as : List Value) (r : Option Value) (ρ' : Rho) : Prop := Met l y ws rm (PcX G ρ hs as) (FQ G ρ r ρ') 1 6 (fun q => ρ q ≠ none)
section MYX
variable {p : Program} {l : Launch} {e : Env} {R : Room} {s : State} {m : MethodId} {args : Array Value} {below : List Frame} {meth : Method} {c : Code} {H H0 : Heap} {locs : List Loc} {cells slots : Nat} {Q : State → Prop}
variable {cc : ByteArray} {pc : Nat} {ls : Array Slot} {rest : List Value} {G : GD} {ρ0 ρ ρ' : Rho} {a z hs : Nat}
variable {y : MethodName} {bytes : ByteArray} {maxL nL n index : Nat} {ret : Option FieldType} {ws : List Cond} {rmm : Room} {Ts : List Cond} {own C : String} {b : Nat} {As st0 : List Value}
theorem e_run {r : Option Value} {ar : Array Value} (hr : va_Run p l e R s m args below meth c H locs cells slots 1 6 (F0 m pc ls st0) rest (EQ r ar) (fun _ => False)) (hR : RW G ρ H)
    {st1 : List Value} (h1 : st1 = r.toList ++ rest) (kk : ∀ H1 : Heap, RW G ρ H1 → H.size ≤ H1.size → (∀ q : Nat, q < H.size → H1[q]? = H[q]?) → W p l e R s m args below meth c H1 locs (cells + 1) (slots + 6) Q (F0 m (pc + 3) ls st1)) : W p l e R s m args below meth c H locs cells slots Q (F0 m pc ls st0) := by
  subst h1
  intro T hT X
  obtain ⟨v', st₀, t, T', L, h0, X', hL, e1, e2, ⟨ho, hz, hk⟩, st⟩ := hr T hT X
  cases ho
  rw [h0] at hz hk
  have hL0 : L = [] := by
    cases L with
    | nil => rfl
    | cons q L => exact (hL q List.mem_cons_self).elim
  subst hL0
  rw [List.append_nil] at X'
  obtain ⟨t2, a1, b1⟩ := kk t.heap (hR.keep hk) hz hk T' e1 X'
  exact ⟨t2, st t2 a1, b1⟩
theorem f_run {r : Option Value} {ar : Array Value} (hr : va_Run p l e R s m args below meth c H locs cells slots 1 6 (F0 m pc ls st0) rest (FQ G ρ r ρ' ar) (fun q => ρ q ≠ none)) (hS : AS ρ0 H0 ρ z H locs)
    {st1 : List Value} (h1 : st1 = r.toList ++ rest) (kk : ∀ (z1 : Nat) (H1 : Heap) (locs1 : List Loc), RW G ρ' H1 → AS ρ0 H0 ρ' z1 H1 locs1 → W p l e R s m args below meth c H1 locs1 (cells + 1) (slots + 6) Q (F0 m (pc + 3) ls st1)) : W p l e R s m args below meth c H locs cells slots Q (F0 m pc ls st0) := by
  subst h1
  obtain ⟨g1, g2, g3, g4, g5⟩ := hS
  intro T hT X
  obtain ⟨v', st₀, t, T', L, h0, X', hL, e1, e2, ⟨ho, hR', hz, hd, hk⟩, st⟩ := hr T hT X
  cases ho
  rw [h0] at hz hk
  obtain ⟨t2, a1, b1⟩ := kk t.heap.size t.heap (locs ++ L) hR' ⟨rfl, by omega, fun q hq hn => by
      have hnq : ρ q = none := Classical.byContradiction fun hn2 => by
        rcases g5 q hn2 with h | h
        · exact h hn
        · omega
      rw [hk q (by omega) hnq]
      exact g3 q hq hn, fun x hx => by
      rcases List.mem_append.mp hx with h | h
      · exact g4 x h
      · exact g5 _ (hL x h), fun q hq => g5 q (hd q hq)⟩ T' e1 X'
  exact ⟨t2, st t2 a1, b1⟩
/-- a callee that returns, the heap as it was, or throws, the heap longer -/
theorem x_run {Qc : Array Value → State → Outcome → State → Prop} {XC : String → State → State → Prop} {ar : Array Value} {PQ : Option Value → Prop} {PX : String → Prop} (hr : vx_Run p l e R s m args below meth c H locs cells slots 1 6 (F0 m pc ls st0) rest (Qc ar) XC (fun _ => False))
    (hQ : ∀ (a : Array Value) (st t : State) (v : Option Value), Qc a st (.returned v) t → t.heap = st.heap ∧ PQ v) (hX : ∀ (E : String) (st t : State), XC E st t → PX E ∧ st.heap.size ≤ t.heap.size ∧ ∀ q : Nat, q < st.heap.size → t.heap[q]? = st.heap[q]?)
    (kx : ∀ (E : String) (ce : Cell) (q9 : Addr) (H1 : Heap), PX E → H.size ≤ H1.size → (∀ q : Nat, q < H.size → H1[q]? = H[q]?) → H1[q9]? = some ce → ce.vm = .none → s.vm.findClass E = some ce.cls → vx_W p l e R s m args below meth c H1 locs (cells + 1) (slots + 6) Q (F0 m pc ls rest) q9)
    (kk : ∀ v : Option Value, PQ v → W p l e R s m args below meth c H locs (cells + 1) (slots + 6) Q (F0 m (pc + 3) ls (v.toList ++ rest))) : W p l e R s m args below meth c H locs cells slots Q (F0 m pc ls st0) := by
  intro T hT X
  rcases hr T hT X with ⟨v, st₀, t, T', L, h0, X', hL, e1, e2, hq, st⟩ | ⟨q, st₀, t, T', L, E, ce, h0, X', hL, e1, e2, hxc, hce, hcv, hcl, st⟩
  · have hL0 : L = [] := by
      cases L with
      | nil => rfl
      | cons q L => exact (hL q List.mem_cons_self).elim
    subst hL0
    rw [List.append_nil] at X'
    obtain ⟨hh, hp⟩ := hQ _ _ _ _ hq
    obtain ⟨t2, a1, b1⟩ := kk v hp T' (by rw [e1, hh, h0]) X'
    exact ⟨t2, st t2 a1, b1⟩
  · have hL0 : L = [] := by
      cases L with
      | nil => rfl
      | cons q L => exact (hL q List.mem_cons_self).elim
    subst hL0
    rw [List.append_nil] at X'
    obtain ⟨hp, hz, hk⟩ := hX _ _ _ hxc
    rw [h0] at hz hk
    obtain ⟨t2, a1, b1⟩ := kx E ce q t.heap hp hz hk hce hcv hcl T' e1 X'
    exact ⟨t2, st.trans a1, b1⟩
end MYX
section MYSW
variable {R : Room} {s : State} {args : Array Value} {own : String} {index maxL n mc ms : Nat} {y : MethodName} {bytes : ByteArray} {ret : Option FieldType} {rmm : Room} {hh : List (Nat × Nat × Nat × Nat)}
theorem cu_SW (ht : ∀ w ∈ LW, w.before args s = true) (h1 : Cond.codeWith y bytes maxL ret hh ∈ LW) (h2 : Cond.methodLink own index y ∈ LW) (h3 : Cond.static y ∈ LW) (h4 : Cond.initialized y.cls ∈ LW) (hd : hdP y n) (hrc : rmm.cells = mc) (hrs : rmm.slots = ms) (hR : rmm.frames + 1 ≤ R.frames ∧ 8 + (maxL + 11) + rmm.locals ≤ R.locals) : vx_CSW R s args own index y bytes maxL ret hh (Cond.codeWith y bytes maxL ret hh :: LW) rmm mc ms n := by
  have key : ∀ w ∈ LW, ∀ (a' : Array Value) (U : State), s.WarmedH U.vm → w.before a' U = true := fun w hw a' U hW => word_at hW (good_of_word (List.mem_filter.mp hw).2) (ht w hw)
  refine ⟨⟨hrc, hrs, hR.1, hR.2, fun w hw => ?_, List.mem_cons_self⟩, ht _ h1, ht _ h4, hd.1, fun sig h => ?_, ht _ h2, ht _ h3⟩
  · rcases List.mem_cons.mp hw with rfl | hw
    · exact key _ h1
    · exact key w hw
  · have h2 := hd.2
    rw [h] at h2
    exact (Option.some.inj h2).symm
end MYSW
theorem cs_UOE : Cond.castable cUOE cUOE ∈ LF := lf_in (List.mem_append_right _ (show _ ∈ tables_1_1 ++ (tables_1_2 ++ (tables_1_3 ++ (tables_1_4 ++ (tables_1_5 ++ tables_1_6)))) from List.mem_append_right _ (List.mem_append_right _ (List.mem_append_left _ (List.mem_of_getElem? (i := 230) rfl))))) rfl
theorem cs_ISE : Cond.castable cISE cISE ∈ LF := lf_in (List.mem_append_right _ (show _ ∈ tables_1_1 ++ (tables_1_2 ++ (tables_1_3 ++ (tables_1_4 ++ (tables_1_5 ++ tables_1_6)))) from List.mem_append_right _ (List.mem_append_right _ (List.mem_append_right _ (List.mem_append_left _ (List.mem_of_getElem? (i := 58) rfl)))))) rfl
theorem cs_IAE : Cond.castable cIAE cIAE ∈ LF := lf_in (List.mem_append_right _ (show _ ∈ tables_1_1 ++ (tables_1_2 ++ (tables_1_3 ++ (tables_1_4 ++ (tables_1_5 ++ tables_1_6)))) from List.mem_append_right _ (List.mem_append_right _ (List.mem_append_right _ (List.mem_append_left _ (List.mem_of_getElem? (i := 73) rfl)))))) rfl
abbrev hhC : List (Nat × Nat × Nat × Nat) := [(0, 7, 8, 27), (0, 7, 19, 32), (0, 7, 25, 34)]
theorem cw_caught : Cond.codeWith yX1_caughtFailure cX1_caughtFailure 3 (some .int) hhC ∈ LW := lw_t3 (List.mem_of_getElem? (i := 222) rfl) rfl
abbrev hhE : List (Nat × Nat × Nat × Nat) := [(0, 9, 12, 13), (0, 9, 16, 15)]
theorem cw_element : Cond.codeWith yL_element cL_element 5 (some .int) hhE ∈ LW := lw_t4 (List.mem_of_getElem? (i := 90) rfl) rfl
def fX1_caughtFailure (ρ : Rho) (v0 v1 : Int32) : Option Int32 := (fX1_throwFailure ρ v0 v1).bind fun r => if r = 0 then some (-15) else if r = 1 then (fX1_price ρ v0 v1).bind fun x => some (200 + x) else if r = 2 then some (100 + v1) else some v1
abbrev rX1_caughtFailure : Room := { frames := 12, cells := 1, slots := 6, locals := 160 }
theorem hdX1_caughtFailure : hdP yX1_caughtFailure 2 := by unfold hdP; decide +kernel
set_option maxHeartbeats 4000000 in
set_option maxRecDepth 100000 in
theorem kX1_caughtFailure (l : Launch) (hfl : l.stackTraces = false) (G : GD) (ρ : Rho) (hs : Nat) (v0 v1 : Int32) (r : Int32) (hf : fX1_caughtFailure ρ v0 v1 = some r) : EM l G yX1_caughtFailure (Cond.codeWith yX1_caughtFailure cX1_caughtFailure 3 (some .int) hhC :: LW) rX1_caughtFailure ρ hs [.int v0, .int v1] (some (.int r)) := by
  refine Met.ofWH (cc := cX1_caughtFailure) (maxL := 3) (ret := some .int) (hh := hhC) (by decide) rfl ?_
  intro p e s m args below meth c s₁ B hml hv
  obtain ⟨rfl, hR, hK, hX⟩ := hv
  have hts0 := atoms_spec (ws := Cond.codeWith yX1_caughtFailure cX1_caughtFailure 3 (some .int) hhC :: LW) B.pre
  have hts : ∀ w ∈ LW, w.before _ s = true := fun w hw => hts0 w (List.mem_cons_of_mem _ hw)
  have hown : s.vm.findClass RX1 = some m.cls := findClass_of_methodNamed B.named
  have hlk := B.notSynchronized
  have hx := B.exec
  have hb := B.bytes
  have hr := B.returns
  have htab : c.exceptionTable.toList = [⟨0, 7, 8, 27⟩, ⟨0, 7, 19, 32⟩, ⟨0, 7, 25, 34⟩] := vx_table (x := yX1_caughtFailure) B (hts _ cw_caught)
  have hFa : ∀ w ∈ LF, w.before ([Value.int v0, Value.int v1] : List Value).toArray s = true := fun w hw => lf_same hw rfl (hX.1 w hw)
  have n1 : va_Nc cISE cUOE s := hX.2.2.2.2.1
  have n2 : va_Nc cIAE cUOE s := hX.2.2.2.2.2.1
  have n3 : va_Nc cIAE cISE s := hX.2.2.2.2.2.2.1
  rw [lg_entry_eq]
  obtain ⟨k, h1, hf⟩ := Option.bind_eq_some_iff.mp hf
  have hl := lv_entry [Value.int v0, Value.int v1] (n := 3) (Nat.le_of_ble_eq_true rfl)
  generalize (lg_sl [Value.int v0, Value.int v1] ++ List.replicate (3 - (lg_sl [Value.int v0, Value.int v1]).length) Slot.unset).toArray = ls at hl ⊢
  replace hl : lv_has ls 3 [(0, .int v0), (1, .int v1)] := hl
  refine lv_iload_n hx hb dX1_caughtFailure_0 rfl (lv_at hl 0 rfl) ?_
  refine lv_iload_n hx hb dX1_caughtFailure_1 rfl (lv_at hl 1 rfl) ?_
  refine x_run (PQ := fun v => v = none ∧ k = 0) (PX := fun E => E = eNm k ∧ (k = 1 ∨ k = 2 ∨ k = 3)) (rest := []) (vx_runS (As := [.int v0, .int v1]) ⟨hx, hb, hml, hown, hts⟩ (kX1_throwFailure l hfl G ρ hs v0 v1 k h1) (cu_S hts tw_3_228 tw_3_226 tw_3_227 tw_1_7 hdX1_throwFailure rfl rfl ⟨Nat.le_of_ble_eq_true rfl, Nat.le_of_ble_eq_true rfl⟩) ⟨PcX_blind G ρ hs _, fun U hU hW => x_pre hK (by rw [hU]; exact hR) hX (fun q _ _ => by rw [hU]) _ hW⟩ rfl rfl hl.1 rfl (lv_room (rest := [.int v1, .int v0]) (ls := ls) (pc := 2) (m := m) (Nat.le_of_ble_eq_true rfl)) dX1_caughtFailure_2 ⟨Nat.le_of_ble_eq_true rfl, Nat.le_of_ble_eq_true rfl⟩) (fun a st t v h => ⟨h.2.1, Outcome.returned.inj h.1, h.2.2⟩) (fun E st t h => ⟨h.1, h.2⟩) ?_ ?_
  · rintro E ce q9 H1 ⟨rfl, hk⟩ hz hkp hce hcv hcl
    have hR1 := hR.keep hkp
    rcases hk with rfl | rfl | rfl
    · replace hf : ((fX1_price ρ v0 v1).bind fun x => some (200 + x)) = some r := hf
      obtain ⟨x, h2, hf⟩ := Option.bind_eq_some_iff.mp hf
      refine vx_catch (name := cUOE) (E := eNm 1) hown [] ⟨0, 7, 8, 27⟩ _ htab (fun z hz => absurd hz List.not_mem_nil) rfl (by decide) (hts _ tw_3_223) (hFa _ cs_UOE) hce hcv hcl ?_
      refine lv_astore_n (lv' := [(2, .ref q9), (0, .int v0), (1, .int v1)]) hx hb dX1_caughtFailure_8 rfl hl (by decide) rfl (fun ls hl => ?_)
      refine lv_sipush (v := 200) hx hb dX1_caughtFailure_9 (by decide) ?_
      refine lv_iload_n hx hb dX1_caughtFailure_12 rfl (lv_at hl 1 rfl) ?_
      refine lv_iload_n hx hb dX1_caughtFailure_13 rfl (lv_at hl 2 rfl) ?_
      refine r_callS (As := [.int v0, .int v1]) (rest := [.int 200]) (st1 := [.int x, .int 200]) ⟨hx, hb, hml, hown, hts⟩ (kX1_price l G ρ v0 v1 _ h2) (cu_S hts tw_3_215 tw_4_87 tw_3_214 tw_1_7 hdX1_price rfl rfl ⟨Nat.le_of_ble_eq_true rfl, Nat.le_of_ble_eq_true rfl⟩) hK hR1 rfl hl.1 rfl (Nat.le_of_ble_eq_true rfl) dX1_caughtFailure_14 ⟨Nat.le_of_ble_eq_true rfl, Nat.le_of_ble_eq_true rfl⟩ rfl ?_
      refine lv_iadd hx hb dX1_caughtFailure_17 ?_
      cases hf
      exact W.iret hx hb hr (fun t ht _ => ⟨rfl, by rw [ht]; exact hz, fun q hq => by rw [ht]; exact hkp q hq⟩) (fun q h => absurd h List.not_mem_nil) dX1_caughtFailure_18
    · replace hf : some (100 + v1) = some r := hf
      refine vx_catch (name := cISE) (E := eNm 2) hown [⟨0, 7, 8, 27⟩] ⟨0, 7, 19, 32⟩ _ htab (fun z hz => by rw [List.mem_singleton.mp hz]; exact Or.inr ⟨by decide, cUOE, hts _ tw_3_223, n1⟩) rfl (by decide) (hts _ tw_3_224) (hFa _ cs_ISE) hce hcv hcl ?_
      refine lv_astore_n (lv' := [(2, .ref q9), (0, .int v0), (1, .int v1)]) hx hb dX1_caughtFailure_19 rfl hl (by decide) rfl (fun ls hl => ?_)
      refine lv_bipush (v := 100) hx hb dX1_caughtFailure_20 (by decide) ?_
      refine lv_iload_n hx hb dX1_caughtFailure_22 rfl (lv_at hl 2 rfl) ?_
      refine lv_iadd hx hb dX1_caughtFailure_23 ?_
      cases hf
      exact W.iret hx hb hr (fun t ht _ => ⟨rfl, by rw [ht]; exact hz, fun q hq => by rw [ht]; exact hkp q hq⟩) (fun q h => absurd h List.not_mem_nil) dX1_caughtFailure_24
    · replace hf : some v1 = some r := hf
      refine vx_catch (name := cIAE) (E := eNm 3) hown [⟨0, 7, 8, 27⟩, ⟨0, 7, 19, 32⟩] ⟨0, 7, 25, 34⟩ [] htab (fun z hz => by
        rcases List.mem_cons.mp hz with h | h
        · rw [h]; exact Or.inr ⟨by decide, cUOE, hts _ tw_3_223, n2⟩
        · rw [List.mem_singleton.mp h]; exact Or.inr ⟨by decide, cISE, hts _ tw_3_224, n3⟩) rfl (by decide) (hts _ tw_3_225) (hFa _ cs_IAE) hce hcv hcl ?_
      refine lv_astore_n (lv' := [(2, .ref q9), (0, .int v0), (1, .int v1)]) hx hb dX1_caughtFailure_25 rfl hl (by decide) rfl (fun ls hl => ?_)
      refine lv_iload_n hx hb dX1_caughtFailure_26 rfl (lv_at hl 2 rfl) ?_
      cases hf
      exact W.iret hx hb hr (fun t ht _ => ⟨rfl, by rw [ht]; exact hz, fun q hq => by rw [ht]; exact hkp q hq⟩) (fun q h => absurd h List.not_mem_nil) dX1_caughtFailure_27
  · rintro v ⟨rfl, rfl⟩
    replace hf : some (-15) = some r := hf
    refine lv_bipush (v := -15) hx hb dX1_caughtFailure_5 (by decide) ?_
    cases hf
    exact W.iret hx hb hr (fun t ht _ => ⟨rfl, by rw [ht]; exact Nat.le_refl _, fun q hq => by rw [ht]⟩) (fun q h => absurd h List.not_mem_nil) dX1_caughtFailure_7
def fX9_toss (ρ : Rho) (v0 : Nat) (v1 : Int32) : Option Int32 := (fX9_isShelf ρ v1).bind fun x1 => if x1 = 0 then some (-1) else
  (gR ρ 2 v0 3).bind fun x2 => (ldR ρ x2 v1).bind fun x3 => (ckO ρ 1 x3).bind fun _ => (fX6_refusalAsKind ρ x3).bind fun x5 => if (0 : Int32) ≤ x5 then
    (gR ρ 2 v0 3).bind fun x6 => (ldR ρ x6 v1).bind fun x7 => (gI ρ 1 x7 1).bind fun x8 => (gR ρ 2 v0 3).bind fun x9 => (ldR ρ x9 v1).bind fun x10 => (gI ρ 1 x10 2).bind fun x11 => fX1_caughtFailure ρ x8 x11
  else some x5
abbrev rX9_toss : Room := { frames := 14, cells := 1, slots := 6, locals := 220 }
theorem hdX9_toss : hdP yX9_toss 1 := by unfold hdP; decide +kernel
set_option maxHeartbeats 4000000 in
set_option maxRecDepth 100000 in
theorem kX9_toss (l : Launch) (hfl : l.stackTraces = false) (G : GD) (ρ : Rho) (hs : Nat) (v0 : Nat) (v1 : Int32) (r : Int32) (hf : fX9_toss ρ v0 v1 = some r) : EM l G yX9_toss (Cond.code yX9_toss cX9_toss 3 (some .int) :: LW) rX9_toss ρ hs [.ref v0, .int v1] (some (.int r)) := by
  refine Met.ofW (cc := cX9_toss) (maxL := 3) (ret := some .int) (by decide) rfl ?_
  intro p e s m args below meth c s₁ B hml hv
  obtain ⟨rfl, hR, hK, hX⟩ := hv
  have hts0 := atoms_spec (ws := Cond.code yX9_toss cX9_toss 3 (some .int) :: LW) B.pre
  have hts : ∀ w ∈ LW, w.before _ s = true := fun w hw => hts0 w (List.mem_cons_of_mem _ hw)
  have hown : s.vm.findClass RX9 = some m.cls := findClass_of_methodNamed B.named
  have hlk := B.notSynchronized
  have hx := B.exec
  have hb := B.bytes
  have hr := B.returns
  rw [lg_entry_eq]
  have hl := lv_entry [Value.ref v0, Value.int v1] (n := 3) (Nat.le_of_ble_eq_true rfl)
  generalize (lg_sl [Value.ref v0, Value.int v1] ++ List.replicate (3 - (lg_sl [Value.ref v0, Value.int v1]).length) Slot.unset).toArray = ls at hl ⊢
  replace hl : lv_has ls 3 [(0, .ref v0), (1, .int v1)] := hl
  unfold fX9_toss at hf
  refine lv_iload_n hx hb dX9_toss_0 rfl (lv_at hl 1 rfl) ?_
  obtain ⟨x1, h1, hf⟩ := Option.bind_eq_some_iff.mp hf
  refine r_callS (As := [.int v1]) (rest := []) (st1 := [.int x1]) ⟨hx, hb, hml, hown, hts⟩ (kX9_isShelf l G ρ v1 _ h1) (cu_S hts tw_1_154 tw_1_152 tw_1_153 tw_1_1 hdX9_isShelf rfl rfl ⟨Nat.le_of_ble_eq_true rfl, Nat.le_of_ble_eq_true rfl⟩) hK hR rfl hl.1 rfl (Nat.le_of_ble_eq_true rfl) dX9_toss_1 ⟨Nat.le_of_ble_eq_true rfl, Nat.le_of_ble_eq_true rfl⟩ rfl ?_
  refine lv_if_ne (tgt := 9) hx hb dX9_toss_4 (by decide) (fun c1 => ?_) (fun c1 => ?_)
  · replace hf := (if_neg c1).symm.trans hf
    obtain ⟨x2, h2, hf⟩ := Option.bind_eq_some_iff.mp hf
    obtain ⟨x3, h3, hf⟩ := Option.bind_eq_some_iff.mp hf
    obtain ⟨x4, h4, hf⟩ := Option.bind_eq_some_iff.mp hf
    obtain ⟨x5, h5, hf⟩ := Option.bind_eq_some_iff.mp hf
    refine lv_aload_n hx hb dX9_toss_9 rfl (lv_at hl 0 rfl) ?_
    refine r_gR hx hb hts inX9 hown hK hR rfl 3 (by decide) (hts _ tw_1_135) h2 dX9_toss_10 ?_
    refine lv_iload_n hx hb dX9_toss_13 rfl (lv_at hl 1 rfl) ?_
    refine r_ldR hx hb hK hR h3 dX9_toss_14 ?_
    refine r_callV (As := []) (rest := []) (st1 := [.int x5]) ⟨hx, hb, hml, hown, hts⟩ (kX6_refusalAsKind l G ρ x3 _ h5) (cu_V hts tw_2_73 tw_2_70 tw_2_71 tw_2_72 tw_1_3 hdX6_refusalAsKind rfl rfl ⟨Nat.le_of_ble_eq_true rfl, Nat.le_of_ble_eq_true rfl⟩) hK hR rfl h4 rfl hl.1 rfl (Nat.le_of_ble_eq_true rfl) dX9_toss_15 ⟨Nat.le_of_ble_eq_true rfl, Nat.le_of_ble_eq_true rfl⟩ rfl ?_
    refine lv_istore_n (lv' := [(2, .int x5), (0, .ref v0), (1, .int v1)]) hx hb dX9_toss_18 rfl hl (by decide) rfl (fun ls hl => ?_)
    refine lv_iload_n hx hb dX9_toss_19 rfl (lv_at hl 0 rfl) ?_
    refine lv_if_ge (tgt := 27) hx hb dX9_toss_20 (by decide) (fun c2 => ?_) (fun c2 => ?_)
    · replace hf := (if_pos c2).symm.trans hf
      obtain ⟨x6, h6, hf⟩ := Option.bind_eq_some_iff.mp hf
      obtain ⟨x7, h7, hf⟩ := Option.bind_eq_some_iff.mp hf
      obtain ⟨x8, h8, hf⟩ := Option.bind_eq_some_iff.mp hf
      obtain ⟨x9, h9, hf⟩ := Option.bind_eq_some_iff.mp hf
      obtain ⟨x10, h10, hf⟩ := Option.bind_eq_some_iff.mp hf
      obtain ⟨x11, h11, hf⟩ := Option.bind_eq_some_iff.mp hf
      refine lv_aload_n hx hb dX9_toss_27 rfl (lv_at hl 1 rfl) ?_
      refine r_gR hx hb hts inX9 hown hK hR rfl 3 (by decide) (hts _ tw_1_135) h6 dX9_toss_28 ?_
      refine lv_iload_n hx hb dX9_toss_31 rfl (lv_at hl 2 rfl) ?_
      refine r_ldR hx hb hK hR h7 dX9_toss_32 ?_
      refine r_gI hx hb hts inX6 hown hK hR rfl 1 (by decide) (hts _ tw_1_104) h8 dX9_toss_33 ?_
      refine lv_aload_n hx hb dX9_toss_36 rfl (lv_at hl 1 rfl) ?_
      refine r_gR hx hb hts inX9 hown hK hR rfl 3 (by decide) (hts _ tw_1_135) h9 dX9_toss_37 ?_
      refine lv_iload_n hx hb dX9_toss_40 rfl (lv_at hl 2 rfl) ?_
      refine r_ldR hx hb hK hR h10 dX9_toss_41 ?_
      refine r_gI hx hb hts inX6 hown hK hR rfl 2 (by decide) (hts _ tw_1_106) h11 dX9_toss_42 ?_
      refine e_run (st1 := [.int r]) (rest := []) (vx_runSW (As := [.int x8, .int x11]) ⟨hx, hb, hml, hown, hts⟩ (kX1_caughtFailure l hfl G ρ hs x8 x11 r hf) (cu_SW hts cw_caught tw_3_220 tw_3_221 tw_1_7 hdX1_caughtFailure rfl rfl ⟨Nat.le_of_ble_eq_true rfl, Nat.le_of_ble_eq_true rfl⟩) ⟨PcX_blind G ρ hs _, fun U hU hW => x_pre hK (by rw [hU]; exact hR) hX (fun q _ _ => by rw [hU]) _ hW⟩ rfl rfl hl.1 rfl (lv_room (rest := [.int x11, .int x8]) (ls := ls) (pc := 45) (m := m) (Nat.le_of_ble_eq_true rfl)) dX9_toss_45 ⟨Nat.le_of_ble_eq_true rfl, Nat.le_of_ble_eq_true rfl⟩) hR rfl (fun H1 hR1 hz hk => ?_)
      exact W.iret hx hb hr (fun t ht _ => ⟨rfl, by rw [ht]; exact hz, fun q hq => by rw [ht]; exact hk q hq⟩) (fun q h => absurd h List.not_mem_nil) dX9_toss_48
    · replace hf := (if_neg c2).symm.trans hf
      refine lv_iload_n hx hb dX9_toss_23 rfl (lv_at hl 0 rfl) ?_
      refine lv_goto (tgt := 48) hx hb dX9_toss_24 (by decide) ?_
      cases hf
      refine W.widen (k := 1) (n := 6) (Nat.zero_le _) (Nat.zero_le _) ?_
      exact W.iret hx hb hr (fun t ht _ => ⟨rfl, by rw [ht]; exact Nat.le_refl _, fun q hq => by rw [ht]⟩) (fun q h => absurd h List.not_mem_nil) dX9_toss_48
  · replace hf := (if_pos c1).symm.trans hf
    refine lv_iconst (v := -1) hx hb dX9_toss_7 (by decide) ?_
    cases hf
    refine W.widen (k := 1) (n := 6) (Nat.zero_le _) (Nat.zero_le _) ?_
    exact W.iret hx hb hr (fun t ht _ => ⟨rfl, by rw [ht]; exact Nat.le_refl _, fun q hq => by rw [ht]⟩) (fun q h => absurd h List.not_mem_nil) dX9_toss_8
def fL_element (ρ : Rho) (v0 : Nat) (v1 v2 : Int32) (v3 : Nat) : Option (Int32 × Rho) := (ckO ρ 2 v0).bind fun _ => (fX9_element ρ v0 v1 v2).bind fun r => match r with
  | .inl v => (stL ρ v3 0 v).bind fun x => some (0, x)
  | .inr k => if k = 3 then some (1, ρ) else some (2, ρ)
abbrev rL_element : Room := { frames := 12, cells := 1, slots := 6, locals := 160 }
theorem hdL_element : hdP yL_element 4 := by unfold hdP; decide +kernel
set_option maxHeartbeats 4000000 in
set_option maxRecDepth 100000 in
theorem kL_element (l : Launch) (hfl : l.stackTraces = false) (G : GD) (ρ : Rho) (hs : Nat) (v0 : Nat) (v1 v2 : Int32) (v3 : Nat) (r0 : Int32) (ρ1 : Rho) (hf : fL_element ρ v0 v1 v2 v3 = some (r0, ρ1)) : FM l G yL_element (Cond.codeWith yL_element cL_element 5 (some .int) hhE :: LW) rL_element ρ hs [.ref v0, .int v1, .int v2, .ref v3] (some (.int r0)) ρ1 := by
  refine Met.ofWH (cc := cL_element) (maxL := 5) (ret := some .int) (hh := hhE) (by decide) rfl ?_
  intro p e s m args below meth c s₁ B hml hv
  obtain ⟨rfl, hR, hK, hX⟩ := hv
  have hts0 := atoms_spec (ws := Cond.codeWith yL_element cL_element 5 (some .int) hhE :: LW) B.pre
  have hts : ∀ w ∈ LW, w.before _ s = true := fun w hw => hts0 w (List.mem_cons_of_mem _ hw)
  have hown : s.vm.findClass RL = some m.cls := findClass_of_methodNamed B.named
  have hlk := B.notSynchronized
  have hx := B.exec
  have hb := B.bytes
  have hr := B.returns
  have htab : c.exceptionTable.toList = [⟨0, 9, 12, 13⟩, ⟨0, 9, 16, 15⟩] := vx_table (x := yL_element) B (hts _ cw_element)
  have hFa : ∀ w ∈ LF, w.before ([Value.ref v0, Value.int v1, Value.int v2, Value.ref v3] : List Value).toArray s = true := fun w hw => lf_same hw rfl (hX.1 w hw)
  have n4 : va_Nc cISE cIAE s := hX.2.2.2.2.2.2.2
  rw [lg_entry_eq]
  obtain ⟨u, h0, hf⟩ := Option.bind_eq_some_iff.mp hf
  obtain ⟨k, h1, hf⟩ := Option.bind_eq_some_iff.mp hf
  have hl := lv_entry [Value.ref v0, Value.int v1, Value.int v2, Value.ref v3] (n := 5) (Nat.le_of_ble_eq_true rfl)
  generalize (lg_sl [Value.ref v0, Value.int v1, Value.int v2, Value.ref v3] ++ List.replicate (5 - (lg_sl [Value.ref v0, Value.int v1, Value.int v2, Value.ref v3]).length) Slot.unset).toArray = ls at hl ⊢
  replace hl : lv_has ls 5 [(0, .ref v0), (1, .int v1), (2, .int v2), (3, .ref v3)] := hl
  refine lv_aload_n hx hb dL_element_0 rfl (lv_at hl 3 rfl) ?_
  refine lv_iconst (v := 0) hx hb dL_element_1 (by decide) ?_
  refine lv_aload_n hx hb dL_element_2 rfl (lv_at hl 0 rfl) ?_
  refine lv_iload_n hx hb dL_element_3 rfl (lv_at hl 1 rfl) ?_
  refine lv_iload_n hx hb dL_element_4 rfl (lv_at hl 2 rfl) ?_
  refine x_run (PQ := fun v => ∃ w : Int64, v = some (.long w) ∧ k = .inl w) (PX := fun E => ∃ j, k = .inr j ∧ E = eNm j ∧ (j = 2 ∨ j = 3)) (rest := [.int 0, .ref v3]) (vx_runV (C := RX9) (As := [.int v1, .int v2]) ⟨hx, hb, hml, hown, hts⟩ (kX9_element l hfl G ρ hs v0 v1 v2 k h1) (cu_V hts tw_4_96 tw_4_93 tw_4_94 tw_4_95 tw_1_1 hdX9_element rfl rfl ⟨Nat.le_of_ble_eq_true rfl, Nat.le_of_ble_eq_true rfl⟩) ⟨PcX_blind G ρ hs _, r_recv hK hR (q := (RX9, TX9, 5)) rfl h0, fun U hU hW => x_pre hK (by rw [hU]; exact hR) hX (fun q _ _ => by rw [hU]) _ hW⟩ rfl rfl hl.1 rfl (lv_room (rest := [.int v2, .int v1, .ref v0, .int 0, .ref v3]) (ls := ls) (pc := 5) (m := m) (Nat.le_of_ble_eq_true rfl)) dL_element_5 ⟨Nat.le_of_ble_eq_true rfl, Nat.le_of_ble_eq_true rfl⟩) (fun a st t v h => by obtain ⟨w, g1, g2, g3⟩ := h; exact ⟨g2, w, Outcome.returned.inj g1, g3⟩) (fun E st t h => ⟨h.1, h.2⟩) ?_ ?_
  · rintro E ce q9 H1 ⟨j, rfl, rfl, hj⟩ hz hkp hce hcv hcl
    have hR1 := hR.keep hkp
    rcases hj with rfl | rfl
    · replace hf : some (2, ρ) = some (r0, ρ1) := hf
      refine vx_catch (name := cISE) (E := eNm 2) hown [⟨0, 9, 12, 13⟩] ⟨0, 9, 16, 15⟩ [] htab (fun z hz => by rw [List.mem_singleton.mp hz]; exact Or.inr ⟨by decide, cIAE, hts _ tw_4_91, n4⟩) rfl (by decide) (hts _ tw_4_92) (hFa _ cs_ISE) hce hcv hcl ?_
      refine lv_astore (lv' := [(4, .ref q9), (0, .ref v0), (1, .int v1), (2, .int v2), (3, .ref v3)]) hx hb dL_element_16 hl (by decide) rfl (fun ls hl => ?_)
      refine lv_iconst (v := 2) hx hb dL_element_18 (by decide) ?_
      cases hf
      exact W.iret hx hb hr (fun t ht _ => ⟨rfl, by rw [ht]; exact hR1, by rw [ht]; exact hz, fun q hq => hq, fun q hq _ => by rw [ht]; exact hkp q hq⟩) (fun q h => absurd h List.not_mem_nil) dL_element_19
    · replace hf : some (1, ρ) = some (r0, ρ1) := hf
      refine vx_catch (name := cIAE) (E := eNm 3) hown [] ⟨0, 9, 12, 13⟩ _ htab (fun z hz => absurd hz List.not_mem_nil) rfl (by decide) (hts _ tw_4_91) (hFa _ cs_IAE) hce hcv hcl ?_
      refine lv_astore (lv' := [(4, .ref q9), (0, .ref v0), (1, .int v1), (2, .int v2), (3, .ref v3)]) hx hb dL_element_12 hl (by decide) rfl (fun ls hl => ?_)
      refine lv_iconst (v := 1) hx hb dL_element_14 (by decide) ?_
      cases hf
      exact W.iret hx hb hr (fun t ht _ => ⟨rfl, by rw [ht]; exact hR1, by rw [ht]; exact hz, fun q hq => hq, fun q hq _ => by rw [ht]; exact hkp q hq⟩) (fun q h => absurd h List.not_mem_nil) dL_element_15
  · rintro v ⟨w, rfl, rfl⟩
    replace hf : ((stL ρ v3 0 w).bind fun x => some ((0 : Int32), x)) = some (r0, ρ1) := hf
    obtain ⟨x, h2, hf⟩ := Option.bind_eq_some_iff.mp hf
    show W p l e _ s m _ below meth c _ [] _ _ _ (F0 m 8 ls [.long w, .int 0, .ref v3])
    refine w_stL (ρ0 := ρ) (H0 := s.heap) hx hb hK hR WS.rf h2 dL_element_8 (fun H locs hR hS => ?_)
    refine lv_goto (tgt := 20) hx hb dL_element_9 (by decide) ?_
    refine lv_iconst (v := 0) hx hb dL_element_20 (by decide) ?_
    cases hf
    exact W.iret hx hb hr (fun t ht _ => ⟨rfl, by rw [ht]; exact hR, by rw [ht, hS.1]; exact Nat.le_refl _, hS.2.2.2, fun q _ hn => by rw [ht]; exact hS.2.1 q hn⟩) hS.2.2.1 dL_element_21
