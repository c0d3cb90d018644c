/-! MY CORE. A partial picture of the heap, by addresses: what each known cell holds. Methods that only read: the heap is the same behind them (RM). Methods that write, but make nothing: WM. -/
/-- what a cell holds: a row of ints, of longs, of references; an object (its class's place in vwCl, its fields) -/
abbrev AC : Type := (Nat × (Nat → Int32)) ⊕ ((Nat × (Nat → Int64)) ⊕ ((Nat × (Nat → Option Nat)) ⊕ (Nat × List Value)))
abbrev Rho : Type := Nat → Option AC
/-- the classes' numbers and slots; the numbers of int rows, long rows, rows of Shelf -/
abbrev GD : Type := va_G × ClassId × ClassId × ClassId
def ac_E (G : GD) (c : AC) : va_E := match c with
  | .inl x => .inl (G.2.1, x.1, .inl x.2)
  | .inr (.inl x) => .inl (G.2.2.1, x.1, .inr (.inl x.2))
  | .inr (.inr (.inl x)) => .inl (G.2.2.2, x.1, .inr (.inr (.inr (.inr x.2))))
  | .inr (.inr (.inr o)) => .inr o
def ac_T (G : GD) : List (ClassId × FieldType) := [(G.2.1, .int), (G.2.2.1, .long), (G.2.2.2, .object RX6)]
def RW (G : GD) (ρ : Rho) (H : Heap) : Prop := ∀ (a : Nat) (c : AC), ρ a = some c → va_at G.1 vwCl (a, ac_E G c) H
def KW (G : GD) (s : State) : Prop := va_K G.1 vwCl (ac_T G) s
abbrev oC (c : Nat) (fs : List Value) : AC := .inr (.inr (.inr (c, fs)))
abbrev iC (n : Nat) (f : Nat → Int32) : AC := .inl (n, f)
abbrev lC (n : Nat) (f : Nat → Int64) : AC := .inr (.inl (n, f))
abbrev rC (n : Nat) (f : Nat → Option Nat) : AC := .inr (.inr (.inl (n, f)))
def rset (ρ : Rho) (a : Nat) (c : AC) : Rho := fun q => if q = a then some c else ρ q
def vI (v : Option Value) : Option Int32 := match v with
  | some (.int x) => some x
  | _ => none
def vR (v : Option Value) : Option Nat := match v with
  | some (.ref x) => some x
  | _ => none
def obF (ρ : Rho) (ci a : Nat) : Option (List Value) := match ρ a with
  | some (.inr (.inr (.inr (c, fs)))) => if c = ci then some fs else none
  | _ => none
def gI (ρ : Rho) (ci a k : Nat) : Option Int32 := (obF ρ ci a).bind fun fs => vI fs[k]?
def gR (ρ : Rho) (ci a k : Nat) : Option Nat := (obF ρ ci a).bind fun fs => vR fs[k]?
def ckO (ρ : Rho) (ci a : Nat) : Option Unit := (obF ρ ci a).bind fun _ => some ()
def inb (i : Int32) (n : Nat) : Bool := !(decide (i < 0)) && decide (i.toNatClampNeg < n)
def ldI (ρ : Rho) (a : Nat) (i : Int32) : Option Int32 := match ρ a with
  | some (.inl (n, f)) => if inb i n then some (f i.toNatClampNeg) else none
  | _ => none
def ldL (ρ : Rho) (a : Nat) (i : Int32) : Option Int64 := match ρ a with
  | some (.inr (.inl (n, f))) => if inb i n then some (f i.toNatClampNeg) else none
  | _ => none
def ldR (ρ : Rho) (a : Nat) (i : Int32) : Option Nat := match ρ a with
  | some (.inr (.inr (.inl (n, f)))) => if inb i n then f i.toNatClampNeg else none
  | _ => none
def lenI (ρ : Rho) (a : Nat) : Option Int32 := match ρ a with
  | some (.inl (n, _)) => some (Int32.ofNat n)
  | _ => none
def stI (ρ : Rho) (a : Nat) (i v : Int32) : Option Rho := match ρ a with
  | some (.inl (n, f)) => if inb i n then some (rset ρ a (iC n (upd f i.toNatClampNeg v))) else none
  | _ => none
def stL (ρ : Rho) (a : Nat) (i : Int32) (v : Int64) : Option Rho := match ρ a with
  | some (.inr (.inl (n, f))) => if inb i n then some (rset ρ a (lC n (vp_updL f i.toNatClampNeg v))) else none
  | _ => none
def ptV (ρ : Rho) (ci a k : Nat) (v : Value) : Option Rho := (obF ρ ci a).bind fun fs => if k < fs.length then some (rset ρ a (oC ci (fs.set k v))) else none
/-- System.arraycopy of int rows -/
def cpI (ρ : Rho) (a0 : Nat) (sp : Int32) (a1 : Nat) (dp n : Int32) : Option Rho := match ρ a0, ρ a1 with
  | some (.inl (n0, f)), some (.inl (n1, g)) => if sp < 0 ∨ dp < 0 ∨ n < 0 ∨ n0 < sp.toNatClampNeg + n.toNatClampNeg ∨ n1 < dp.toNatClampNeg + n.toNatClampNeg then none else some (rset ρ a1 (iC n1 (va_cpy f g sp.toNatClampNeg dp.toNatClampNeg n.toNatClampNeg)))
  | _, _ => none
/-- an int that a boolean method may return -/
def nb (v : Int32) : Option Int32 := if v = 0 then some 0 else if v = 1 then some 1 else none
def dv (x y : Int32) : Option Int32 := if y = 0 then none else some (x / y)
def rm (x y : Int32) : Option Int32 := if y = 0 then none else some (x - x / y * y)
def dvL (x y : Int64) : Option Int64 := if y = 0 then none else some (x / y)
def rmL (x y : Int64) : Option Int64 := if y = 0 then none else some (x - x / y * y)
theorem obF_some {ρ : Rho} {ci a : Nat} {fs : List Value} (h : obF ρ ci a = some fs) : ρ a = some (oC ci fs) := by
  unfold obF at h
  split at h
  · rename_i c fs' hc
    by_cases hci : c = ci
    · rw [if_pos hci] at h
      cases h
      rw [hc, hci]
    · rw [if_neg hci] at h
      cases h
  · cases h
theorem gI_some {ρ : Rho} {ci a k : Nat} {v : Int32} (h : gI ρ ci a k = some v) : ∃ fs, ρ a = some (oC ci fs) ∧ fs[k]? = some (.int v) := by
  obtain ⟨fs, h1, h2⟩ := Option.bind_eq_some_iff.mp h
  refine ⟨fs, obF_some h1, ?_⟩
  unfold vI at h2
  split at h2
  · rename_i x hx
    cases h2
    exact hx
  · cases h2
theorem gR_some {ρ : Rho} {ci a k v : Nat} (h : gR ρ ci a k = some v) : ∃ fs, ρ a = some (oC ci fs) ∧ fs[k]? = some (.ref v) := by
  obtain ⟨fs, h1, h2⟩ := Option.bind_eq_some_iff.mp h
  refine ⟨fs, obF_some h1, ?_⟩
  unfold vR at h2
  split at h2
  · rename_i x hx
    cases h2
    exact hx
  · cases h2
theorem inb_vp {i : Int32} {n : Nat} (h : inb i n = true) : vp_in i n := by
  unfold inb at h
  simp only [Bool.and_eq_true, Bool.not_eq_true', decide_eq_false_iff_not, decide_eq_true_eq] at h
  rintro (q | q)
  · exact h.1 q
  · omega
theorem ldI_some {ρ : Rho} {a : Nat} {i v : Int32} (h : ldI ρ a i = some v) : ∃ n f, ρ a = some (iC n f) ∧ vp_in i n ∧ f i.toNatClampNeg = v := by
  unfold ldI at h
  split at h
  · rename_i n f hf
    split at h
    · rename_i hi
      cases h
      exact ⟨n, f, hf, inb_vp hi, rfl⟩
    · cases h
  · cases h
theorem ldL_some {ρ : Rho} {a : Nat} {i : Int32} {v : Int64} (h : ldL ρ a i = some v) : ∃ n f, ρ a = some (lC n f) ∧ vp_in i n ∧ f i.toNatClampNeg = v := by
  unfold ldL at h
  split at h
  · rename_i n f hf
    split at h
    · rename_i hi
      cases h
      exact ⟨n, f, hf, inb_vp hi, rfl⟩
    · cases h
  · cases h
theorem ldR_some {ρ : Rho} {a v : Nat} {i : Int32} (h : ldR ρ a i = some v) : ∃ n f, ρ a = some (rC n f) ∧ vp_in i n ∧ f i.toNatClampNeg = some v := by
  unfold ldR at h
  split at h
  · rename_i n f hf
    split at h
    · rename_i hi
      exact ⟨n, f, hf, inb_vp hi, h⟩
    · cases h
  · cases h
theorem lenI_some {ρ : Rho} {a : Nat} {v : Int32} (h : lenI ρ a = some v) : ∃ n f, ρ a = some (iC n f) ∧ Int32.ofNat n = v := by
  unfold lenI at h
  split at h
  · rename_i n f hf
    cases h
    exact ⟨n, f, hf, rfl⟩
  · cases h
theorem stI_some {ρ ρ' : Rho} {a : Nat} {i v : Int32} (h : stI ρ a i v = some ρ') : ∃ n f, ρ a = some (iC n f) ∧ vp_in i n ∧ ρ' = rset ρ a (iC n (upd f i.toNatClampNeg v)) := by
  unfold stI at h
  split at h
  · rename_i n f hf
    split at h
    · rename_i hi
      cases h
      exact ⟨n, f, hf, inb_vp hi, rfl⟩
    · cases h
  · cases h
theorem stL_some {ρ ρ' : Rho} {a : Nat} {i : Int32} {v : Int64} (h : stL ρ a i v = some ρ') : ∃ n f, ρ a = some (lC n f) ∧ vp_in i n ∧ ρ' = rset ρ a (lC n (vp_updL f i.toNatClampNeg v)) := by
  unfold stL at h
  split at h
  · rename_i n f hf
    split at h
    · rename_i hi
      cases h
      exact ⟨n, f, hf, inb_vp hi, rfl⟩
    · cases h
  · cases h
theorem ptV_some {ρ ρ' : Rho} {ci a k : Nat} {v : Value} (h : ptV ρ ci a k v = some ρ') : ∃ fs, ρ a = some (oC ci fs) ∧ k < fs.length ∧ ρ' = rset ρ a (oC ci (fs.set k v)) := by
  obtain ⟨fs, h1, h2⟩ := Option.bind_eq_some_iff.mp h
  refine ⟨fs, obF_some h1, ?_⟩
  by_cases hk : k < fs.length
  · rw [if_pos hk] at h2
    cases h2
    exact ⟨hk, rfl⟩
  · rw [if_neg hk] at h2
    cases h2
theorem nb_some {v r : Int32} (h : nb v = some r) : narrow .boolean (.int v) = .int v ∧ v = r := by
  unfold nb at h
  by_cases h0 : v = 0
  · rw [if_pos h0] at h
    cases h
    subst h0
    exact ⟨rfl, rfl⟩
  · rw [if_neg h0] at h
    by_cases h1 : v = 1
    · rw [if_pos h1] at h
      cases h
      subst h1
      exact ⟨rfl, rfl⟩
    · rw [if_neg h1] at h
      cases h
theorem dv_some {x y r : Int32} (h : dv x y = some r) : ¬ y = 0 ∧ x / y = r := by
  unfold dv at h
  by_cases h0 : y = 0
  · rw [if_pos h0] at h
    cases h
  · rw [if_neg h0] at h
    cases h
    exact ⟨h0, rfl⟩
theorem rm_some {x y r : Int32} (h : rm x y = some r) : ¬ y = 0 ∧ x - x / y * y = r := by
  unfold rm at h
  by_cases h0 : y = 0
  · rw [if_pos h0] at h
    cases h
  · rw [if_neg h0] at h
    cases h
    exact ⟨h0, rfl⟩
theorem dvL_some {x y r : Int64} (h : dvL x y = some r) : ¬ y = 0 ∧ x / y = r := by
  unfold dvL at h
  by_cases h0 : y = 0
  · rw [if_pos h0] at h
    cases h
  · rw [if_neg h0] at h
    cases h
    exact ⟨h0, rfl⟩
theorem rmL_some {x y r : Int64} (h : rmL x y = some r) : ¬ y = 0 ∧ x - x / y * y = r := by
  unfold rmL at h
  by_cases h0 : y = 0
  · rw [if_pos h0] at h
    cases h
  · rw [if_neg h0] at h
    cases h
    exact ⟨h0, rfl⟩
theorem RW.one {G : GD} {ρ : Rho} {H : Heap} {a : Nat} {c : AC} (h : RW G ρ H) (hc : ρ a = some c) : va_P G.1 vwCl [(a, ac_E G c)] H := by
  intro k q hq
  cases k with
  | zero => cases hq; exact h a c hc
  | succ k => simp at hq
/-- contracts: the heap pictured by ρ; a method that reads, one that writes -/
def PcR (G : GD) (ρ : Rho) (as : List Value) : Array Value → State → Prop := va_Pc as (fun U => RW G ρ U.heap ∧ KW G U)
def RM (l : Launch) (G : GD) (y : MethodName) (ws : List Cond) (rm : Room) (ρ : Rho) (as : List Value) (r : Option Value) : Prop :=
  Met l y ws rm (PcR G ρ as) (fun _ st o t => o = .returned r ∧ t.heap = st.heap) 0 0 (fun _ => False)
def WM (l : Launch) (G : GD) (y : MethodName) (ws : List Cond) (rm : Room) (ρ : Rho) (as : List Value) (r : Option Value) (ρ' : Rho) : Prop :=
  Met l y ws rm (PcR G ρ as) (fun _ st o t => o = .returned r ∧ RW G ρ' t.heap ∧ t.heap.size = st.heap.size ∧ (∀ q, ρ' q ≠ none → ρ q ≠ none) ∧ ∀ q, ρ q = none → t.heap[q]? = st.heap[q]?) 0 0 (fun q => ρ q ≠ none)
theorem PcR_blind (G : GD) (ρ : Rho) (as : List Value) : FrameBlind (PcR G ρ as) := fun a U g mk h => ⟨h.1, h.2.1, va_K.moved (u := U) (U := U.calling g mk a) (Vm.Alike.refl U.vm) h.2.2⟩
section MYROWS
variable {p : Program} {l : Launch} {e : Env} {R : Room} {s : State} {m : MethodId} {args : Array Value} {below : List Frame} {meth : Method} {c : Code} {H : Heap} {locs : List Loc} {cells slots : Nat} {Q : State → Prop}
variable {cc : ByteArray} {pc : Nat} {ls : Array Slot} {rest : List Value} {G : GD} {ρ : Rho} {a : Nat}
theorem r_gI (hexec : p.tables.exec = Jvm.exec) (hb : c.code = cc) {own C : String} {T : u_T} {N ci index : Nat} {Ts : List Cond} (hts : ∀ w ∈ Ts, w.before args s = true) (hin : ∀ w ∈ u_ws C T N, w ∈ Ts) (hown : s.vm.findClass own = some m.cls) (hK : KW G s) (hR : RW G ρ H) (hc : vwCl[ci]? = some (C, T, N)) (k : Nat) (hk : k < N) (hlink : (Cond.fieldLink own index (T k).1 (T k).2.1 (T k).2.2.1).before args s = true) {v : Int32} (hv : gI ρ ci a k = some v) (hdg : decode cc pc = .ok (.getfield index, 3))
    (kk : W p l e R s m args below meth c H locs cells slots Q (F0 m (pc + 3) ls (.int v :: rest))) : W p l e R s m args below meth c H locs cells slots Q (F0 m pc ls (.ref a :: rest)) := by
  obtain ⟨fs, h1, h2⟩ := gI_some hv
  exact va_get hexec hb hts hin hown hK (hR.one h1) 0 rfl hc k hk hlink (fun _ h => h) h2 hdg kk
theorem r_gR (hexec : p.tables.exec = Jvm.exec) (hb : c.code = cc) {own C : String} {T : u_T} {N ci index : Nat} {Ts : List Cond} (hts : ∀ w ∈ Ts, w.before args s = true) (hin : ∀ w ∈ u_ws C T N, w ∈ Ts) (hown : s.vm.findClass own = some m.cls) (hK : KW G s) (hR : RW G ρ H) (hc : vwCl[ci]? = some (C, T, N)) (k : Nat) (hk : k < N) (hlink : (Cond.fieldLink own index (T k).1 (T k).2.1 (T k).2.2.1).before args s = true) {v : Nat} (hv : gR ρ ci a k = some v) (hdg : decode cc pc = .ok (.getfield index, 3))
    (kk : W p l e R s m args below meth c H locs cells slots Q (F0 m (pc + 3) ls (.ref v :: rest))) : W p l e R s m args below meth c H locs cells slots Q (F0 m pc ls (.ref a :: rest)) := by
  obtain ⟨fs, h1, h2⟩ := gR_some hv
  exact va_get hexec hb hts hin hown hK (hR.one h1) 0 rfl hc k hk hlink (fun _ h => h) h2 hdg kk
theorem r_ldI (hexec : p.tables.exec = Jvm.exec) (hb : c.code = cc) (hK : KW G s) (hR : RW G ρ H) {i v : Int32} (hv : ldI ρ a i = some v) (hdg : decode cc pc = .ok (.iaload, 1))
    (kk : W p l e R s m args below meth c H locs cells slots Q (F0 m (pc + 1) ls (.int v :: rest))) : W p l e R s m args below meth c H locs cells slots Q (F0 m pc ls (.int i :: .ref a :: rest)) := by
  obtain ⟨n, f, h1, h2, h3⟩ := ldI_some hv
  subst h3
  exact va_iald hexec hb hK (hR.one h1) 0 0 rfl rfl h2 hdg kk
theorem r_ldL (hexec : p.tables.exec = Jvm.exec) (hb : c.code = cc) (hK : KW G s) (hR : RW G ρ H) {i : Int32} {v : Int64} (hv : ldL ρ a i = some v) (hdg : decode cc pc = .ok (.laload, 1))
    (kk : W p l e R s m args below meth c H locs cells slots Q (F0 m (pc + 1) ls (.long v :: rest))) : W p l e R s m args below meth c H locs cells slots Q (F0 m pc ls (.int i :: .ref a :: rest)) := by
  obtain ⟨n, f, h1, h2, h3⟩ := ldL_some hv
  subst h3
  exact va_lald hexec hb hK (hR.one h1) 0 1 rfl rfl h2 hdg kk
theorem r_ldR (hexec : p.tables.exec = Jvm.exec) (hb : c.code = cc) (hK : KW G s) (hR : RW G ρ H) {i : Int32} {v : Nat} (hv : ldR ρ a i = some v) (hdg : decode cc pc = .ok (.aaload, 1))
    (kk : W p l e R s m args below meth c H locs cells slots Q (F0 m (pc + 1) ls (.ref v :: rest))) : W p l e R s m args below meth c H locs cells slots Q (F0 m pc ls (.int i :: .ref a :: rest)) := by
  obtain ⟨n, f, h1, h2, h3⟩ := ldR_some hv
  refine va_aldq (f := f) hexec hb hK (hR.one h1) 0 2 rfl rfl h2 hdg ?_
  rw [h3]
  exact kk
theorem r_lenI (hexec : p.tables.exec = Jvm.exec) (hb : c.code = cc) (hK : KW G s) (hR : RW G ρ H) {v : Int32} (hv : lenI ρ a = some v) (hdg : decode cc pc = .ok (.arraylength, 1))
    (kk : W p l e R s m args below meth c H locs cells slots Q (F0 m (pc + 1) ls (.int v :: rest))) : W p l e R s m args below meth c H locs cells slots Q (F0 m pc ls (.ref a :: rest)) := by
  obtain ⟨n, f, h1, h2⟩ := lenI_some hv
  exact va_alen hexec hb hK (hR.one h1) 0 0 rfl rfl h2 hdg kk
theorem r_recv {ci b : Nat} {q : vw_C} {u : Unit} (hK : KW G s) (hR : RW G ρ H) (hc : vwCl[ci]? = some q) (hv : ckO ρ ci b = some u) : ∃ cell : Cell, H[b]? = some cell ∧ cell.vm.isStatics = false ∧ s.vm.findClass q.1 = some cell.cls := by
  obtain ⟨fs, h1, -⟩ := Option.bind_eq_some_iff.mp hv
  exact va_recv hK (hR.one (obF_some h1)) hc (q0 := 0) rfl
theorem r_pre {U : State} (hK : KW G s) (hR : RW G ρ H) (as : List Value) (hU : U.heap = H) (hW : s.WarmedH U.vm) : PcR G ρ as as.toArray U := ⟨rfl, by rw [hU]; exact hR, va_K.moved hW.alike hK⟩
variable {y : MethodName} {bytes : ByteArray} {maxL nL n index : Nat} {ret : Option FieldType} {ws : List Cond} {rmm : Room} {Ts : List Cond} {own C : String} {b : Nat} {As st0 : List Value}
/-- what is common to the calls of methods that read -/
theorem r_run {r : Option Value} (hr : va_Run p l e R s m args below meth c H locs cells slots 0 0 (F0 m pc ls st0) rest ((fun _ st o t => o = .returned r ∧ t.heap = st.heap) As.toArray) (fun _ => False))
    {st1 : List Value} (h1 : st1 = r.toList ++ rest) (kk : W p l e R s m args below meth c H locs cells slots Q (F0 m (pc + 3) ls st1)) : W p l e R s m args below meth c H locs cells slots Q (F0 m pc ls st0) := by
  subst h1
  intro T hT X
  obtain ⟨v', st₀, t, T', L, h0, X', hL, e1, e2, ⟨ho, hh⟩, st⟩ := hr T hT X
  cases ho
  have hL0 : L = [] := by
    cases L with
    | nil => rfl
    | cons q L => exact (hL q List.mem_cons_self).elim
  subst hL0
  rw [List.append_nil] at X'
  obtain ⟨t2, a1, b1⟩ := kk T' (by rw [e1, hh, h0]) X'
  exact ⟨t2, st t2 a1, b1⟩
theorem r_callS {r : Option Value} (S : CallFix p m c cc nL s args Ts own) (hM : RM l G y ws rmm ρ As r) (cw : CallB R s args own index y bytes maxL ret ws rmm 0 0 n ∧ (Cond.static y).before args s = true) (hK : KW G s) (hR : RW G ρ H)
    (hn : As.length = n) (hsize : ls.size = nL) (hst : st0 = As.reverse ++ rest) (hcap : (rest.map fun v => v.category).sum ≤ 8) (hdg : decode cc pc = .ok (.invokestatic index, 3)) (hf : cells ≤ R.cells ∧ slots ≤ R.slots) {st1 : List Value} (h1 : st1 = r.toList ++ rest)
    (kk : W p l e R s m args below meth c H locs cells slots Q (F0 m (pc + 3) ls st1)) : W p l e R s m args below meth c H locs cells slots Q (F0 m pc ls st0) :=
  r_run (As := As) (va_runS S hM cw ⟨PcR_blind G ρ As, fun U hU hW => r_pre hK hR As hU hW⟩ rfl hn hsize hst (lv_room (rest := st0) (ls := ls) (pc := pc) (m := m) hcap) hdg hf) h1 kk
theorem r_callV {r : Option Value} (S : CallFix p m c cc nL s args Ts own) {ci : Nat} {q : vw_C} {u : Unit} (hM : RM l G y ws rmm ρ (.ref b :: As) r) (cw : CallW R s args own q.1 index y bytes maxL ret ws rmm 0 0 n) (hK : KW G s) (hR : RW G ρ H) (hc : vwCl[ci]? = some q) (hv : ckO ρ ci b = some u)
    (hn : As.length = n) (hsize : ls.size = nL) (hst : st0 = As.reverse ++ .ref b :: rest) (hcap : (rest.map fun v => v.category).sum ≤ 8) (hdg : decode cc pc = .ok (.invokevirtual index, 3)) (hf : cells ≤ R.cells ∧ slots ≤ R.slots) {st1 : List Value} (h1 : st1 = r.toList ++ rest)
    (kk : W p l e R s m args below meth c H locs cells slots Q (F0 m (pc + 3) ls st1)) : W p l e R s m args below meth c H locs cells slots Q (F0 m pc ls st0) :=
  r_run (As := .ref b :: As) (va_runV S hM cw ⟨PcR_blind G ρ _, r_recv hK hR hc hv, fun U hU hW => r_pre hK hR (.ref b :: As) hU hW⟩ rfl hn hsize hst (lv_room (rest := st0) (ls := ls) (pc := pc) (m := m) hcap) hdg hf) h1 kk
theorem r_idiv (hexec : p.tables.exec = Jvm.exec) (hb : c.code = cc) {x y v : Int32} (h : dv x y = some v) (hdg : decode cc pc = .ok (.idiv, 1))
    (kk : W p l e R s m args below meth c H locs cells slots Q (F0 m (pc + 1) ls (.int v :: rest))) : W p l e R s m args below meth c H locs cells slots Q (F0 m pc ls (.int y :: .int x :: rest)) := by
  obtain ⟨h1, h2⟩ := dv_some h
  subst h2
  exact lv_idiv hexec hb hdg h1 kk
theorem r_irem (hexec : p.tables.exec = Jvm.exec) (hb : c.code = cc) {x y v : Int32} (h : rm x y = some v) (hdg : decode cc pc = .ok (.irem, 1))
    (kk : W p l e R s m args below meth c H locs cells slots Q (F0 m (pc + 1) ls (.int v :: rest))) : W p l e R s m args below meth c H locs cells slots Q (F0 m pc ls (.int y :: .int x :: rest)) := by
  obtain ⟨h1, h2⟩ := rm_some h
  subst h2
  exact lv_irem hexec hb hdg h1 kk
theorem r_ldiv (hexec : p.tables.exec = Jvm.exec) (hb : c.code = cc) {x y v : Int64} (h : dvL x y = some v) (hdg : decode cc pc = .ok (.ldiv, 1))
    (kk : W p l e R s m args below meth c H locs cells slots Q (F0 m (pc + 1) ls (.long v :: rest))) : W p l e R s m args below meth c H locs cells slots Q (F0 m pc ls (.long y :: .long x :: rest)) := by
  obtain ⟨h1, h2⟩ := dvL_some h
  subst h2
  exact lv_ldiv hexec hb hdg h1 kk
theorem r_lrem (hexec : p.tables.exec = Jvm.exec) (hb : c.code = cc) {x y v : Int64} (h : rmL x y = some v) (hdg : decode cc pc = .ok (.lrem, 1))
    (kk : W p l e R s m args below meth c H locs cells slots Q (F0 m (pc + 1) ls (.long v :: rest))) : W p l e R s m args below meth c H locs cells slots Q (F0 m pc ls (.long y :: .long x :: rest)) := by
  obtain ⟨h1, h2⟩ := rmL_some h
  subst h2
  exact lv_lrem hexec hb hdg h1 kk
/-- a switch's default: each place of the table goes elsewhere only for a number that x isn't -/
theorem r_tabD (hexec : p.tables.exec = Jvm.exec) (hb : c.code = cc) {dflt lo hi : Int} {offs : Array Int} {len : Nat} {x : Int32} {tgt : Nat} (hdg : decode cc pc = .ok (.tableswitch dflt lo hi offs, len)) (hn : hi - lo + 1 = (offs.size : Int)) (h : ∀ j : Nat, j < offs.size → offs[j]? = some dflt ∨ ¬ x.toInt = lo + j) (ht : (pc : Int) + dflt = (tgt : Int))
    (k : W p l e R s m args below meth c H locs cells slots Q (F0 m tgt ls rest)) : W p l e R s m args below meth c H locs cells slots Q (F0 m pc ls (.int x :: rest)) := by
  by_cases h0 : x.toInt < lo ∨ hi < x.toInt
  · exact lv_tableOut hexec hb hdg h0 ht k
  · have h1 : (x.toInt - lo).toNat < offs.size := by omega
    rcases h _ h1 with h2 | h2
    · exact lv_tableIn hexec hb hdg (fun q => h0 (Or.inl q)) (fun q => h0 (Or.inr q)) h2 ht k
    · exact absurd (by omega) h2
theorem r_lookD (hexec : p.tables.exec = Jvm.exec) (hb : c.code = cc) {dflt : Int} {ps : Array (Int × Int)} {len : Nat} {x : Int32} {tgt : Nat} (hdg : decode cc pc = .ok (.lookupswitch dflt ps, len)) (hp : (ps.toList.zip (ps.toList.drop 1)).all (fun (a, next) => a.1 < next.1) = true) (h : Op.lookupswitch.offset ps.toList dflt x.toInt = dflt) (ht : (pc : Int) + dflt = (tgt : Int))
    (k : W p l e R s m args below meth c H locs cells slots Q (F0 m tgt ls rest)) : W p l e R s m args below meth c H locs cells slots Q (F0 m pc ls (.int x :: rest)) := lv_lookup hexec hb hdg hp h ht k
theorem LW_pay {ts : ∀ w ∈ LW, w.before args s = true} {y : MethodName} {bytes : ByteArray} {maxL : Nat} {ret : Option FieldType} (h1 : Cond.code y bytes maxL ret ∈ LW) : ∀ w ∈ (Cond.code y bytes maxL ret :: LW), ∀ (a' : Array Value) (U : State), s.WarmedH U.vm → w.before a' U = true := by
  have key : ∀ w ∈ LW, ∀ (a' : Array Value) (U : State), s.WarmedH U.vm → w.before a' U = true := fun w hw a' U hW => word_at hW (good_of_word (List.mem_filter.mp hw).2) (ts w hw)
  intro w hw
  rcases List.mem_cons.mp hw with rfl | hw
  · exact key _ h1
  · exact key w hw
end MYROWS
def hdP (y : MethodName) (n : Nat) : Prop := (y.cls ≠ "java/lang/invoke/MethodHandle" ∧ y.cls ≠ "java/lang/invoke/VarHandle") ∧ (parseMethodDescriptor y.desc).map (fun d => d.parameters.length) = some n
section MYCALLS
variable {R : Room} {s : State} {args : Array Value} {own : String} {index maxL n mc ms : Nat} {y : MethodName} {bytes : ByteArray} {ret : Option FieldType} {rmm : Room}
theorem cu_B (ht : ∀ w ∈ LW, w.before args s = true) (h1 : Cond.code y bytes maxL ret ∈ LW) (h2 : Cond.methodLink own index y ∈ LW) (h4 : Cond.initialized y.cls ∈ LW) (hd : hdP y n) (hrc : rmm.cells = mc) (hrs : rmm.slots = ms) (hR : rmm.frames + 1 ≤ R.frames ∧ 8 + (maxL + 11) + rmm.locals ≤ R.locals) : CallB R s args own index y bytes maxL ret (Cond.code y bytes maxL ret :: LW) rmm mc ms n := by
  refine ⟨hrc, hrs, hR.1, hR.2, LW_pay (ts := ht) h1, List.mem_cons_self, ht _ h1, ht _ h4, hd.1, fun sig h => ?_, ht _ h2⟩
  have h2 := hd.2
  rw [h] at h2
  exact (Option.some.inj h2).symm
theorem cu_S (ht : ∀ w ∈ LW, w.before args s = true) (h1 : Cond.code y bytes maxL ret ∈ LW) (h2 : Cond.methodLink own index y ∈ LW) (h3 : Cond.static y ∈ LW) (h4 : Cond.initialized y.cls ∈ LW) (hd : hdP y n) (hrc : rmm.cells = mc) (hrs : rmm.slots = ms) (hR : rmm.frames + 1 ≤ R.frames ∧ 8 + (maxL + 11) + rmm.locals ≤ R.locals) : CallB R s args own index y bytes maxL ret (Cond.code y bytes maxL ret :: LW) rmm mc ms n ∧ (Cond.static y).before args s = true :=
  ⟨cu_B ht h1 h2 h4 hd hrc hrs hR, ht _ h3⟩
theorem cu_V (ht : ∀ w ∈ LW, w.before args s = true) (h1 : Cond.code y bytes maxL ret ∈ LW) (h2 : Cond.methodLink own index y ∈ LW) (h3 : Cond.instanceMethod y ∈ LW) {C : String} (h5 : Cond.selects C y y ∈ LW) (h4 : Cond.initialized y.cls ∈ LW) (hd : hdP y n) (hrc : rmm.cells = mc) (hrs : rmm.slots = ms) (hR : rmm.frames + 1 ≤ R.frames ∧ 8 + (maxL + 11) + rmm.locals ≤ R.locals) : CallW R s args own C index y bytes maxL ret (Cond.code y bytes maxL ret :: LW) rmm mc ms n :=
  ⟨cu_B ht h1 h2 h4 hd hrc hrs hR, ht _ h3, ht _ h5⟩
end MYCALLS
/-- what a reading method's walk is given -/
theorem RM.ofI {l : Launch} {G : GD} {y : MethodName} {cc : ByteArray} {maxL : Nat} {rmm : Room} {ρ : Rho} {as : List Value} {r : Int32} {own : String} (hy : plainName y.cls = true) (ho : y.cls = own) (hlen : (lg_sl as).length ≤ maxL)
    (body : ∀ (p : Program) (e : Env) (s : State) (m : MethodId) (args : Array Value) (below : List Frame) (meth : Method) (c : Code) (H : Heap) (locs : List Loc) (Q : State → Prop), p.tables.exec = Jvm.exec → c.code = cc → c.maxLocals = maxL → s.vm.findClass own = some m.cls → (∀ w ∈ LW, w.before args s = true) → KW G s → RW G ρ H →
      (∀ (pc : Nat) (ls : Array Slot) (v : Int32), decode cc pc = .ok (.ireturn, 1) → some v = some r → W p l e rmm s m args below meth c H locs 0 0 Q (F0 m pc ls [.int v])) →
      ∀ ls : Array Slot, lv_has ls maxL (lv_args 0 as) → W p l e rmm s m args below meth c H locs 0 0 Q (F0 m 0 ls [])) : RM l G y (Cond.code y cc maxL (some .int) :: LW) rmm ρ as (some (.int r)) := by
  refine Met.ofW (cc := cc) (maxL := maxL) (ret := some .int) hy rfl ?_
  intro p e s m args below meth c s₁ B hml hv
  obtain ⟨rfl, hR, hK⟩ := hv
  have hts := atoms_spec (ws := Cond.code y cc maxL (some .int) :: LW) B.pre
  have hown : s.vm.findClass own = some m.cls := ho ▸ findClass_of_methodNamed B.named
  have hlk := B.notSynchronized
  rw [lg_entry_eq]
  refine body p e s m _ below meth c s.heap [] _ B.exec B.bytes hml hown (fun w hw => hts w (List.mem_cons_of_mem _ hw)) hK hR ?_ _ (lv_entry as hlen)
  intro pc ls v hd hvr
  cases hvr
  exact W.iret B.exec B.bytes B.returns (fun t ht _ => ⟨rfl, ht⟩) (fun q h => absurd h List.not_mem_nil) hd
theorem RM.ofZ {l : Launch} {G : GD} {y : MethodName} {cc : ByteArray} {maxL : Nat} {rmm : Room} {ρ : Rho} {as : List Value} {r : Int32} {own : String} (hy : plainName y.cls = true) (ho : y.cls = own) (hlen : (lg_sl as).length ≤ maxL)
    (body : ∀ (p : Program) (e : Env) (s : State) (m : MethodId) (args : Array Value) (below : List Frame) (meth : Method) (c : Code) (H : Heap) (locs : List Loc) (Q : State → Prop), p.tables.exec = Jvm.exec → c.code = cc → c.maxLocals = maxL → s.vm.findClass own = some m.cls → (∀ w ∈ LW, w.before args s = true) → KW G s → RW G ρ H →
      (∀ (pc : Nat) (ls : Array Slot) (v : Int32), decode cc pc = .ok (.ireturn, 1) → nb v = some r → W p l e rmm s m args below meth c H locs 0 0 Q (F0 m pc ls [.int v])) →
      ∀ ls : Array Slot, lv_has ls maxL (lv_args 0 as) → W p l e rmm s m args below meth c H locs 0 0 Q (F0 m 0 ls [])) : RM l G y (Cond.code y cc maxL (some .boolean) :: LW) rmm ρ as (some (.int r)) := by
  refine Met.ofW (cc := cc) (maxL := maxL) (ret := some .boolean) hy rfl ?_
  intro p e s m args below meth c s₁ B hml hv
  obtain ⟨rfl, hR, hK⟩ := hv
  have hts := atoms_spec (ws := Cond.code y cc maxL (some .boolean) :: LW) B.pre
  have hown : s.vm.findClass own = some m.cls := ho ▸ findClass_of_methodNamed B.named
  have hlk := B.notSynchronized
  rw [lg_entry_eq]
  refine body p e s m _ below meth c s.heap [] _ B.exec B.bytes hml hown (fun w hw => hts w (List.mem_cons_of_mem _ hw)) hK hR ?_ _ (lv_entry as hlen)
  intro pc ls v hd hvr
  obtain ⟨h1, h2⟩ := nb_some hvr
  subst h2
  exact W.zret B.exec B.bytes B.returns h1 (fun t ht _ => ⟨rfl, ht⟩) (fun q h => absurd h List.not_mem_nil) hd
theorem RM.ofL {l : Launch} {G : GD} {y : MethodName} {cc : ByteArray} {maxL : Nat} {rmm : Room} {ρ : Rho} {as : List Value} {r : Int64} {own : String} (hy : plainName y.cls = true) (ho : y.cls = own) (hlen : (lg_sl as).length ≤ maxL)
    (body : ∀ (p : Program) (e : Env) (s : State) (m : MethodId) (args : Array Value) (below : List Frame) (meth : Method) (c : Code) (H : Heap) (locs : List Loc) (Q : State → Prop), p.tables.exec = Jvm.exec → c.code = cc → c.maxLocals = maxL → s.vm.findClass own = some m.cls → (∀ w ∈ LW, w.before args s = true) → KW G s → RW G ρ H →
      (∀ (pc : Nat) (ls : Array Slot) (v : Int64), decode cc pc = .ok (.lreturn, 1) → some v = some r → W p l e rmm s m args below meth c H locs 0 0 Q (F0 m pc ls [.long v])) →
      ∀ ls : Array Slot, lv_has ls maxL (lv_args 0 as) → W p l e rmm s m args below meth c H locs 0 0 Q (F0 m 0 ls [])) : RM l G y (Cond.code y cc maxL (some .long) :: LW) rmm ρ as (some (.long r)) := by
  refine Met.ofW (cc := cc) (maxL := maxL) (ret := some .long) hy rfl ?_
  intro p e s m args below meth c s₁ B hml hv
  obtain ⟨rfl, hR, hK⟩ := hv
  have hts := atoms_spec (ws := Cond.code y cc maxL (some .long) :: LW) B.pre
  have hown : s.vm.findClass own = some m.cls := ho ▸ findClass_of_methodNamed B.named
  have hlk := B.notSynchronized
  rw [lg_entry_eq]
  refine body p e s m _ below meth c s.heap [] _ B.exec B.bytes hml hown (fun w hw => hts w (List.mem_cons_of_mem _ hw)) hK hR ?_ _ (lv_entry as hlen)
  intro pc ls v hd hvr
  cases hvr
  exact W.lret B.exec B.bytes B.returns (fun t ht _ => ⟨rfl, ht⟩) (fun q h => absurd h List.not_mem_nil) hd
/-- the bound of a loop's turns, of a recursion's depth -/
def FU : Nat := 100000
/-! WRITING. What a walk has written so far: only cells that were pictured at its start, none made. -/
def WS (ρ0 : Rho) (H0 : Heap) (ρ : Rho) (H : Heap) (locs : List Loc) : Prop := H.size = H0.size ∧ (∀ q, ρ0 q = none → H[q]? = H0[q]?) ∧ (∀ z ∈ locs, ρ0 z.base ≠ none) ∧ ∀ q, ρ q ≠ none → ρ0 q ≠ none
theorem WS.rf {ρ : Rho} {H : Heap} : WS ρ H ρ H [] := ⟨rfl, fun _ _ => rfl, fun _ h => absurd h List.not_mem_nil, fun _ h => h⟩
theorem WS.set {ρ0 ρ : Rho} {H0 H H1 : Heap} {locs L : List Loc} {a : Nat} {c : AC} (h : WS ρ0 H0 ρ H locs) (ha : ρ a ≠ none) (hz : H1.size = H.size) (oq : ∀ q : Nat, q ≠ a → H1[q]? = H[q]?) (hL : ∀ z ∈ L, z.base = a) : WS ρ0 H0 (rset ρ a c) H1 (locs ++ L) := by
  refine ⟨hz.trans h.1, fun q hq => ?_, fun z hz => ?_, fun q hq => ?_⟩
  · rw [oq q (fun e => h.2.2.2 a ha (e ▸ hq))]
    exact h.2.1 q hq
  · rcases List.mem_append.mp hz with h1 | h1
    · exact h.2.2.1 z h1
    · rw [hL z h1]
      exact h.2.2.2 a ha
  · by_cases e : q = a
    · rw [e]
      exact h.2.2.2 a ha
    · unfold rset at hq
      rw [if_neg e] at hq
      exact h.2.2.2 q hq
theorem RW.set {G : GD} {ρ : Rho} {H H1 : Heap} {a : Nat} {c : AC} (h : RW G ρ H) (hc : va_at G.1 vwCl (a, ac_E G c) H1) (oq : ∀ q : Nat, q ≠ a → H1[q]? = H[q]?) : RW G (rset ρ a c) H1 := by
  intro q d hd
  unfold rset at hd
  by_cases e : q = a
  · rw [if_pos e] at hd
    cases hd
    rw [e]
    exact hc
  · rw [if_neg e] at hd
    exact (h q d hd).kept (oq q e)
theorem some_ne {ρ : Rho} {a : Nat} {c : AC} (h : ρ a = some c) : ρ a ≠ none := fun e => by rw [e] at h; cases h
section MYWRITES
variable {p : Program} {l : Launch} {e : Env} {R : Room} {s : State} {m : MethodId} {args : Array Value} {below : List Frame} {meth : Method} {c : Code} {H H0 : Heap} {locs : List Loc} {cells slots : Nat} {Q : State → Prop}
variable {cc : ByteArray} {pc : Nat} {ls : Array Slot} {rest : List Value} {G : GD} {ρ0 ρ ρ' : Rho} {a : Nat}
theorem w_stI (hexec : p.tables.exec = Jvm.exec) (hb : c.code = cc) (hK : KW G s) (hR : RW G ρ H) (hS : WS ρ0 H0 ρ H locs) {i v : Int32} (hv : stI ρ a i v = some ρ') (hdg : decode cc pc = .ok (.iastore, 1))
    (kk : ∀ (H1 : Heap) (locs1 : List Loc), RW G ρ' H1 → WS ρ0 H0 ρ' H1 locs1 → W p l e R s m args below meth c H1 locs1 cells slots Q (F0 m (pc + 1) ls rest)) : W p l e R s m args below meth c H locs cells slots Q (F0 m pc ls (.int v :: .int i :: .ref a :: rest)) := by
  obtain ⟨n, f, h1, h2, h3⟩ := stI_some hv
  subst h3
  refine W.iast hexec hb (hR a _ h1) ((hK.2 0 _ rfl).1 n (fun j => .int (f j))) (fun q => by cases q) (by show ¬ (i < 0 ∨ (arrV _ _ _).slots.size ≤ _); rw [arrV_size]; exact h2) rfl rfl hdg fun H1 e z oq => ?_
  refine kk H1 _ (hR.set ?_ oq) (hS.set (some_ne h1) z oq (fun z hz => by rw [List.mem_singleton.mp hz]))
  show H1[a]? = some (vp_cell _ _)
  rw [e]
  rw [vp_cell_i, vp_cell_i, arrV_store]
  congr 2
  funext q
  by_cases hq : q = i.toNatClampNeg
  · subst hq
    simp [updV, upd]
  · simp [updV, upd, hq]
theorem w_stL (hexec : p.tables.exec = Jvm.exec) (hb : c.code = cc) (hK : KW G s) (hR : RW G ρ H) (hS : WS ρ0 H0 ρ H locs) {i : Int32} {v : Int64} (hv : stL ρ a i v = some ρ') (hdg : decode cc pc = .ok (.lastore, 1))
    (kk : ∀ (H1 : Heap) (locs1 : List Loc), RW G ρ' H1 → WS ρ0 H0 ρ' H1 locs1 → W p l e R s m args below meth c H1 locs1 cells slots Q (F0 m (pc + 1) ls rest)) : W p l e R s m args below meth c H locs cells slots Q (F0 m pc ls (.long v :: .int i :: .ref a :: rest)) := by
  obtain ⟨n, f, h1, h2, h3⟩ := stL_some hv
  subst h3
  refine W.last hexec hb (hR a _ h1) ((hK.2 1 _ rfl).1 n (fun j => .long (f j))) (fun q => by cases q) (by show ¬ (i < 0 ∨ (arrV _ _ _).slots.size ≤ _); rw [arrV_size]; exact h2) rfl rfl hdg fun H1 e z oq => ?_
  refine kk H1 _ (hR.set ?_ oq) (hS.set (some_ne h1) z oq (fun z hz => by rw [List.mem_singleton.mp hz]))
  show H1[a]? = some (vp_cell _ _)
  rw [e]
  rw [vp_cell_l, vp_cell_l, arrV_store]
  congr 2
  funext q
  by_cases hq : q = i.toNatClampNeg
  · subst hq
    simp [updV, vp_updL]
  · simp [updV, vp_updL, hq]
theorem w_ptV (hexec : p.tables.exec = Jvm.exec) (hb : c.code = cc) {own C : String} {T : u_T} {N ci index : Nat} {Ts : List Cond} (hts : ∀ w ∈ Ts, w.before args s = true) (hin : ∀ w ∈ u_ws C T N, w ∈ Ts) (ty0 : Nat → FieldType) (hty : ∀ k, k < N → parseFieldDescriptor (T k).2.2.1 = some (ty0 k)) (hnm : ∀ a, a < N → ∀ b, b < N → a ≠ b → (T a).2.1 ≠ (T b).2.1) (hown : s.vm.findClass own = some m.cls) (hK : KW G s) (hR : RW G ρ H) (hS0 : WS ρ0 H0 ρ H locs) (hc : vwCl[ci]? = some (C, T, N)) (k : Nat) (hk : k < N) (hlink : (Cond.fieldLink own index (T k).1 (T k).2.1 (T k).2.2.1).before args s = true) (hfin : (T k).2.2.2 = false) {ty : FieldType} {v : Value} (hd : parseFieldDescriptor (T k).2.2.1 = some ty) (hn : narrow ty v = v) (hfit : fits ty v = true) (hv : ptV ρ ci a k v = some ρ')
    (hdg : decode cc pc = .ok (.putfield index, 3)) (kk : ∀ (H1 : Heap) (locs1 : List Loc), RW G ρ' H1 → WS ρ0 H0 ρ' H1 locs1 → W p l e R s m args below meth c H1 locs1 cells slots Q (F0 m (pc + 3) ls rest)) : W p l e R s m args below meth c H locs cells slots Q (F0 m pc ls (v :: .ref a :: rest)) := by
  obtain ⟨fs, g1, hl, g3⟩ := ptV_some hv
  subst g3
  have hap := va_apart (own := own) hts hin ty0 hty hnm hK hc
  obtain ⟨r, h1, cell, q1, q2, q3, q4⟩ := hR a _ g1
  have hr : r = (C, T, N) := Option.some.inj (h1.symm.trans hc)
  subst hr
  obtain ⟨hS, hfc, kC, hkC, hkind⟩ := hK.1 ci _ hc
  obtain ⟨cf, kf, fi, f, hi, hsl⟩ := hS k hk
  have hlay := hts _ (hin _ (u_in_lay hk))
  unfold u_lay at hlay
  rw [if_neg (by rw [hfin]; decide)] at hlay
  have hst := (u_facts hfc hkC (u_lays hts hin hk) hi).1
  have h6 := u_store hfc hkC hkind hlay hi hd hn hfit
  refine W.putK hexec hb (f := f) ⟨hown, hlink, ⟨_, _, _, hi⟩, hst⟩ (by rw [q2]; exact h6) q1 q3 (by rw [hsl]; exact k2_hasslot (q4 k hk)) rfl rfl hdg fun H' e1 e2 e3 => ?_
  rw [hsl] at e1
  exact kk H' _ (hR.set ⟨_, hc, t_OB.to (V := updV (vp_V fs) k v) ⟨_, e1, q2, q3, t_set q4 hap hk v⟩ (fun j _ => vp_updV_set hl v j)⟩ e3) (hS0.set (some_ne g1) e2 e3 (fun z hz => by rw [List.mem_singleton.mp hz]))
theorem cpI_some {a0 a1 : Nat} {sp dp n : Int32} (h : cpI ρ a0 sp a1 dp n = some ρ') : ∃ n0 f n1 g, ρ a0 = some (iC n0 f) ∧ ρ a1 = some (iC n1 g) ∧ ¬ sp < 0 ∧ ¬ dp < 0 ∧ ¬ n < 0 ∧ sp.toNatClampNeg + n.toNatClampNeg ≤ n0 ∧ dp.toNatClampNeg + n.toNatClampNeg ≤ n1 ∧ ρ' = rset ρ a1 (iC n1 (va_cpy f g sp.toNatClampNeg dp.toNatClampNeg n.toNatClampNeg)) := by
  unfold cpI at h
  split at h
  · rename_i n0 f n1 g h0 h1
    split at h
    · cases h
    · rename_i hc
      cases h
      simp only [not_or, Nat.not_lt] at hc
      exact ⟨n0, f, n1, g, h0, h1, hc.1, hc.2.1, hc.2.2.1, hc.2.2.2.1, hc.2.2.2.2, rfl⟩
  · cases h
theorem w_cpI (hexec : p.tables.exec = Jvm.exec) (hb : c.code = cc) (hml : c.maxLocals = ls.size) {own : String} {index : Nat} (hown : s.vm.findClass own = some m.cls) (hlink : (Cond.methodLink own index arraycopyName).before args s = true) (hnat : (Cond.native arraycopyName).before args s = true) (hstat : (Cond.static arraycopyName).before args s = true) (hini : (Cond.initialized "java/lang/System").before args s = true)
    (hK : KW G s) (hR : RW G ρ H) (hS : WS ρ0 H0 ρ H locs) {a0 : Nat} {sp dp n : Int32} (hv : cpI ρ a0 sp a dp n = some ρ')
    (hframes : 1 ≤ R.frames) (hlocals : (rest.map fun v => v.category).sum + (nativeFrameWords "java/lang/System" "arraycopy" 5 + 11) ≤ R.locals) (hdg : decode cc pc = .ok (.invokestatic index, 3))
    (kk : ∀ (H1 : Heap) (locs1 : List Loc), RW G ρ' H1 → WS ρ0 H0 ρ' H1 locs1 → W p l e R s m args below meth c H1 locs1 cells slots Q (F0 m (pc + 3) ls rest)) : W p l e R s m args below meth c H locs cells slots Q (F0 m pc ls (.int n :: .int dp :: .ref a :: .int sp :: .ref a0 :: rest)) := by
  obtain ⟨n0, f, n1, g, ha0, ha1, h1, h2, h3, h4, h5, he⟩ := cpI_some hv
  subst he
  have nn : ∀ z : Int32, ¬ z < 0 → z.toInt = (z.toNatClampNeg : Int) := by
    intro z hz
    have hz0 : (0 : Int) ≤ z.toInt := by
      have := Int32.not_lt.mp hz
      simpa using Int32.le_iff_toInt_le.mp this
    show z.toInt = ((z.toInt.toNat : Nat) : Int)
    omega
  intro T hT X
  have hc0 : H[a0]? = some (vp_cell G.2.1 (n0, .inl f)) := hR a0 _ ha0
  have hc1 : H[a]? = some (vp_cell G.2.1 (n1, .inl g)) := hR a _ ha1
  obtain ⟨-, k0, hk0, cm0, hkk0⟩ := (hK.2 0 _ rfl).1 n0 (fun j => .int (f j))
  obtain ⟨-, k1, hk1, cm1, hkk1⟩ := (hK.2 0 _ rfl).1 n1 (fun j => .int (g j))
  obtain ⟨vm', X', step⟩ := X.arraycopy hexec hown hlink hnat hstat hini (src := a0) (dst := a) (cs := vp_cell G.2.1 (n0, .inl f)) (cd := vp_cell G.2.1 (n1, .inl g)) (srcPos := sp) (destPos := dp) (n := n) (by rw [hT]; exact hc0) (by rw [hT]; exact hc1)
    (fun _ h => by cases h) (fun _ h => by cases h) (fun h => by cases h) (fun h => by cases h) hk0 hk1 hkk0 hkk1 (by simp [refKind]) h1 h2 h3
    (by rw [nn sp h1, nn n h3]; show ¬ _ > ((arrV G.2.1 n0 (fun j => .int (f j))).slots.size : Int); rw [arrV_size]; omega)
    (by rw [nn dp h2, nn n h3]; show ¬ _ > ((arrV G.2.1 n1 (fun j => .int (g j))).slots.size : Int); rw [arrV_size]; omega)
    (fun vm₁ _ i hi => by
      have e : (vp_cell G.2.1 (n0, .inl f)).slots.getD (sp.toNatClampNeg + i) .null = .int (f (sp.toNatClampNeg + i)) := by
        show (arrV G.2.1 n0 (fun j => .int (f j))).slots.getD _ _ = _
        rw [Array.getD_eq_getD_getElem?, arrV_read _ _ (by omega)]
        rfl
      refine ⟨?_, ?_⟩
      · rw [e]
        rfl
      · rw [e]
        exact trivial)
    (g := F0 m pc ls (.int n :: .int dp :: .ref a :: .int sp :: .ref a0 :: rest)) rfl (by rw [hml]) (rest := rest) rfl (by rw [hb]; exact hdg) hframes (by show 2 * 0 + _ + _ ≤ _; omega)
  have e1 : copied (vp_cell G.2.1 (n0, .inl f)) (vp_cell G.2.1 (n1, .inl g)) sp dp n = vp_cell G.2.1 (n1, .inl (va_cpy f g sp.toNatClampNeg dp.toNatClampNeg n.toNatClampNeg)) := va_copied (fun z => .int z) G.2.1 G.2.1 f g h4
  rw [e1] at X' step
  have hl : a < H.size := (Array.getElem?_eq_some_iff.mp hc1).1
  have hheap : ((T.setVm vm').setCell a (vp_cell G.2.1 (n1, .inl (va_cpy f g sp.toNatClampNeg dp.toNatClampNeg n.toNatClampNeg)))).heap = H.setIfInBounds a (vp_cell G.2.1 (n1, .inl (va_cpy f g sp.toNatClampNeg dp.toNatClampNeg n.toNatClampNeg))) := by rw [← hT]; rfl
  have oq : ∀ q : Nat, q ≠ a → (H.setIfInBounds a (vp_cell G.2.1 (n1, .inl (va_cpy f g sp.toNatClampNeg dp.toNatClampNeg n.toNatClampNeg))))[q]? = H[q]? := fun q hq => by simp [Array.getElem?_setIfInBounds, Ne.symm hq]
  obtain ⟨t, a1, b1⟩ := kk _ _ (hR.set (show (H.setIfInBounds a _)[a]? = some _ by simp [Array.getElem?_setIfInBounds, hl]) oq) (hS.set (some_ne ha1) (by simp) oq (fun z hz => by
      obtain ⟨y, -, hy⟩ := List.mem_map.mp hz
      rw [← hy])) _ hheap X'
  exact ⟨t, step t a1, b1⟩
variable {y : MethodName} {bytes : ByteArray} {maxL nL n index : Nat} {ret : Option FieldType} {ws : List Cond} {rmm : Room} {Ts : List Cond} {own C : String} {b : Nat} {As st0 : List Value}
/-- what a writing method says at its end -/
def WQ (G : GD) (ρ : Rho) (r : Option Value) (ρ' : Rho) : Array Value → State → Outcome → State → Prop := fun _ st o t => o = .returned r ∧ RW G ρ' t.heap ∧ t.heap.size = st.heap.size ∧ (∀ q, ρ' q ≠ none → ρ q ≠ none) ∧ ∀ q, ρ q = none → t.heap[q]? = st.heap[q]?
theorem w_run {r : Option Value} {ar : Array Value} (hr : va_Run p l e R s m args below meth c H locs cells slots 0 0 (F0 m pc ls st0) rest (WQ G ρ r ρ' ar) (fun q => ρ q ≠ none)) (hS : WS ρ0 H0 ρ H locs)
    {st1 : List Value} (h1 : st1 = r.toList ++ rest) (kk : ∀ (H1 : Heap) (locs1 : List Loc), RW G ρ' H1 → WS ρ0 H0 ρ' H1 locs1 → W p l e R s m args below meth c H1 locs1 cells slots Q (F0 m (pc + 3) ls st1)) : W p l e R s m args below meth c H locs cells slots Q (F0 m pc ls st0) := by
  subst h1
  intro T hT X
  obtain ⟨v', st₀, t, T', L, h0, X', hL, e1, e2, ⟨ho, hR', hz, hd, hk⟩, st⟩ := hr T hT X
  cases ho
  rw [h0] at hz hk
  obtain ⟨t2, a1, b1⟩ := kk t.heap (locs ++ L) hR' ⟨hz.trans hS.1, fun q hq => by
      rw [hk q (Classical.byContradiction fun hn => hS.2.2.2 q hn hq)]
      exact hS.2.1 q hq, fun z hz => by
      rcases List.mem_append.mp hz with h | h
      · exact hS.2.2.1 z h
      · exact hS.2.2.2 _ (hL z h), fun q hq => hS.2.2.2 q (hd q hq)⟩ T' e1 X'
  exact ⟨t2, st t2 a1, b1⟩
theorem w_callS {r : Option Value} (S : CallFix p m c cc nL s args Ts own) (hM : WM l G y ws rmm ρ As r ρ') (cw : CallB R s args own index y bytes maxL ret ws rmm 0 0 n ∧ (Cond.static y).before args s = true) (hK : KW G s) (hR : RW G ρ H) (hS : WS ρ0 H0 ρ H locs)
    (hn : As.length = n) (hsize : ls.size = nL) (hst : st0 = As.reverse ++ rest) (hcap : (rest.map fun v => v.category).sum ≤ 8) (hdg : decode cc pc = .ok (.invokestatic index, 3)) (hf : cells ≤ R.cells ∧ slots ≤ R.slots) {st1 : List Value} (h1 : st1 = r.toList ++ rest)
    (kk : ∀ (H1 : Heap) (locs1 : List Loc), RW G ρ' H1 → WS ρ0 H0 ρ' H1 locs1 → W p l e R s m args below meth c H1 locs1 cells slots Q (F0 m (pc + 3) ls st1)) : W p l e R s m args below meth c H locs cells slots Q (F0 m pc ls st0) :=
  w_run (va_runS S hM cw ⟨PcR_blind G ρ As, fun U hU hW => r_pre hK hR As hU hW⟩ rfl hn hsize hst (lv_room (rest := st0) (ls := ls) (pc := pc) (m := m) hcap) hdg hf) hS h1 kk
theorem w_callV {r : Option Value} (S : CallFix p m c cc nL s args Ts own) {ci : Nat} {q : vw_C} {u : Unit} (hM : WM l G y ws rmm ρ (.ref b :: As) r ρ') (cw : CallW R s args own q.1 index y bytes maxL ret ws rmm 0 0 n) (hK : KW G s) (hR : RW G ρ H) (hS : WS ρ0 H0 ρ H locs) (hc : vwCl[ci]? = some q) (hv : ckO ρ ci b = some u)
    (hn : As.length = n) (hsize : ls.size = nL) (hst : st0 = As.reverse ++ .ref b :: rest) (hcap : (rest.map fun v => v.category).sum ≤ 8) (hdg : decode cc pc = .ok (.invokevirtual index, 3)) (hf : cells ≤ R.cells ∧ slots ≤ R.slots) {st1 : List Value} (h1 : st1 = r.toList ++ rest)
    (kk : ∀ (H1 : Heap) (locs1 : List Loc), RW G ρ' H1 → WS ρ0 H0 ρ' H1 locs1 → W p l e R s m args below meth c H1 locs1 cells slots Q (F0 m (pc + 3) ls st1)) : W p l e R s m args below meth c H locs cells slots Q (F0 m pc ls st0) :=
  w_run (va_runV S hM cw ⟨PcR_blind G ρ _, r_recv hK hR hc hv, fun U hU hW => r_pre hK hR (.ref b :: As) hU hW⟩ rfl hn hsize hst (lv_room (rest := st0) (ls := ls) (pc := pc) (m := m) hcap) hdg hf) hS h1 kk
end MYWRITES
theorem WM.ofI {l : Launch} {G : GD} {y : MethodName} {cc : ByteArray} {maxL : Nat} {rmm : Room} {ρ ρ1 : Rho} {as : List Value} {r0 : Int32} {r : Int32 × Rho} {own : String} (hr : r = (r0, ρ1)) (hy : plainName y.cls = true) (ho : y.cls = own) (hlen : (lg_sl as).length ≤ maxL)
    (body : ∀ (p : Program) (e : Env) (s : State) (m : MethodId) (args : Array Value) (below : List Frame) (meth : Method) (c : Code) (H : Heap) (locs : List Loc) (Q : State → Prop), p.tables.exec = Jvm.exec → c.code = cc → c.maxLocals = maxL → s.vm.findClass own = some m.cls → (∀ w ∈ LW, w.before args s = true) → KW G s → RW G ρ H → WS ρ s.heap ρ H locs →
      (∀ (pc : Nat) (ls : Array Slot) (v : Int32) (ρ' : Rho) (H : Heap) (locs : List Loc), decode cc pc = .ok (.ireturn, 1) → RW G ρ' H → WS ρ s.heap ρ' H locs → some (v, ρ') = some r → W p l e rmm s m args below meth c H locs 0 0 Q (F0 m pc ls [.int v])) →
      ∀ ls : Array Slot, lv_has ls maxL (lv_args 0 as) → W p l e rmm s m args below meth c H locs 0 0 Q (F0 m 0 ls [])) : WM l G y (Cond.code y cc maxL (some .int) :: LW) rmm ρ as (some (.int r0)) ρ1 := by
  refine Met.ofW (cc := cc) (maxL := maxL) (ret := (some .int)) hy rfl ?_
  intro p e s m args below meth c s₁ B hml hv
  obtain ⟨rfl, hR, hK⟩ := hv
  have hts := atoms_spec (ws := Cond.code y cc maxL (some .int) :: LW) B.pre
  have hown : s.vm.findClass own = some m.cls := ho ▸ findClass_of_methodNamed B.named
  have hlk := B.notSynchronized
  rw [lg_entry_eq]
  refine body p e s m _ below meth c s.heap [] _ B.exec B.bytes hml hown (fun w hw => hts w (List.mem_cons_of_mem _ hw)) hK hR WS.rf ?_ _ (lv_entry as hlen)
  intro pc ls v ρ' H2 locs2 hd hR2 hS2 hvr
  subst hr
  cases hvr
  exact W.iret B.exec B.bytes B.returns (fun t ht _ => ⟨rfl, by rw [ht]; exact hR2, by rw [ht]; exact hS2.1, hS2.2.2.2, fun q hq => by rw [ht]; exact hS2.2.1 q hq⟩) hS2.2.2.1 hd
theorem WM.ofL {l : Launch} {G : GD} {y : MethodName} {cc : ByteArray} {maxL : Nat} {rmm : Room} {ρ ρ1 : Rho} {as : List Value} {r0 : Int64} {r : Int64 × Rho} {own : String} (hr : r = (r0, ρ1)) (hy : plainName y.cls = true) (ho : y.cls = own) (hlen : (lg_sl as).length ≤ maxL)
    (body : ∀ (p : Program) (e : Env) (s : State) (m : MethodId) (args : Array Value) (below : List Frame) (meth : Method) (c : Code) (H : Heap) (locs : List Loc) (Q : State → Prop), p.tables.exec = Jvm.exec → c.code = cc → c.maxLocals = maxL → s.vm.findClass own = some m.cls → (∀ w ∈ LW, w.before args s = true) → KW G s → RW G ρ H → WS ρ s.heap ρ H locs →
      (∀ (pc : Nat) (ls : Array Slot) (v : Int64) (ρ' : Rho) (H : Heap) (locs : List Loc), decode cc pc = .ok (.lreturn, 1) → RW G ρ' H → WS ρ s.heap ρ' H locs → some (v, ρ') = some r → W p l e rmm s m args below meth c H locs 0 0 Q (F0 m pc ls [.long v])) →
      ∀ ls : Array Slot, lv_has ls maxL (lv_args 0 as) → W p l e rmm s m args below meth c H locs 0 0 Q (F0 m 0 ls [])) : WM l G y (Cond.code y cc maxL (some .long) :: LW) rmm ρ as (some (.long r0)) ρ1 := by
  refine Met.ofW (cc := cc) (maxL := maxL) (ret := (some .long)) hy rfl ?_
  intro p e s m args below meth c s₁ B hml hv
  obtain ⟨rfl, hR, hK⟩ := hv
  have hts := atoms_spec (ws := Cond.code y cc maxL (some .long) :: LW) B.pre
  have hown : s.vm.findClass own = some m.cls := ho ▸ findClass_of_methodNamed B.named
  have hlk := B.notSynchronized
  rw [lg_entry_eq]
  refine body p e s m _ below meth c s.heap [] _ B.exec B.bytes hml hown (fun w hw => hts w (List.mem_cons_of_mem _ hw)) hK hR WS.rf ?_ _ (lv_entry as hlen)
  intro pc ls v ρ' H2 locs2 hd hR2 hS2 hvr
  subst hr
  cases hvr
  exact W.lret B.exec B.bytes B.returns (fun t ht _ => ⟨rfl, by rw [ht]; exact hR2, by rw [ht]; exact hS2.1, hS2.2.2.2, fun q hq => by rw [ht]; exact hS2.2.1 q hq⟩) hS2.2.2.1 hd
theorem WM.ofZ {l : Launch} {G : GD} {y : MethodName} {cc : ByteArray} {maxL : Nat} {rmm : Room} {ρ ρ1 : Rho} {as : List Value} {r0 : Int32} {r : Int32 × Rho} {own : String} (hr : r = (r0, ρ1)) (hy : plainName y.cls = true) (ho : y.cls = own) (hlen : (lg_sl as).length ≤ maxL)
    (body : ∀ (p : Program) (e : Env) (s : State) (m : MethodId) (args : Array Value) (below : List Frame) (meth : Method) (c : Code) (H : Heap) (locs : List Loc) (Q : State → Prop), p.tables.exec = Jvm.exec → c.code = cc → c.maxLocals = maxL → s.vm.findClass own = some m.cls → (∀ w ∈ LW, w.before args s = true) → KW G s → RW G ρ H → WS ρ s.heap ρ H locs →
      (∀ (pc : Nat) (ls : Array Slot) (v : Int32) (ρ' : Rho) (H : Heap) (locs : List Loc), decode cc pc = .ok (.ireturn, 1) → RW G ρ' H → WS ρ s.heap ρ' H locs → ((nb v).bind fun y => some (y, ρ')) = some r → W p l e rmm s m args below meth c H locs 0 0 Q (F0 m pc ls [.int v])) →
      ∀ ls : Array Slot, lv_has ls maxL (lv_args 0 as) → W p l e rmm s m args below meth c H locs 0 0 Q (F0 m 0 ls [])) : WM l G y (Cond.code y cc maxL (some .boolean) :: LW) rmm ρ as (some (.int r0)) ρ1 := by
  refine Met.ofW (cc := cc) (maxL := maxL) (ret := (some .boolean)) hy rfl ?_
  intro p e s m args below meth c s₁ B hml hv
  obtain ⟨rfl, hR, hK⟩ := hv
  have hts := atoms_spec (ws := Cond.code y cc maxL (some .boolean) :: LW) B.pre
  have hown : s.vm.findClass own = some m.cls := ho ▸ findClass_of_methodNamed B.named
  have hlk := B.notSynchronized
  rw [lg_entry_eq]
  refine body p e s m _ below meth c s.heap [] _ B.exec B.bytes hml hown (fun w hw => hts w (List.mem_cons_of_mem _ hw)) hK hR WS.rf ?_ _ (lv_entry as hlen)
  intro pc ls v ρ' H2 locs2 hd hR2 hS2 hvr
  subst hr
  obtain ⟨z, g1, g2⟩ := Option.bind_eq_some_iff.mp hvr
  cases g2
  obtain ⟨h1, h2⟩ := nb_some g1
  subst h2
  exact W.zret B.exec B.bytes B.returns h1 (fun t ht _ => ⟨rfl, by rw [ht]; exact hR2, by rw [ht]; exact hS2.1, hS2.2.2.2, fun q hq => by rw [ht]; exact hS2.2.1 q hq⟩) hS2.2.2.1 hd
theorem WM.ofV {l : Launch} {G : GD} {y : MethodName} {cc : ByteArray} {maxL : Nat} {rmm : Room} {ρ ρ1 : Rho} {as : List Value} {r : Rho} {own : String} (hr : r = ρ1) (hy : plainName y.cls = true) (ho : y.cls = own) (hlen : (lg_sl as).length ≤ maxL)
    (body : ∀ (p : Program) (e : Env) (s : State) (m : MethodId) (args : Array Value) (below : List Frame) (meth : Method) (c : Code) (H : Heap) (locs : List Loc) (Q : State → Prop), p.tables.exec = Jvm.exec → c.code = cc → c.maxLocals = maxL → s.vm.findClass own = some m.cls → (∀ w ∈ LW, w.before args s = true) → KW G s → RW G ρ H → WS ρ s.heap ρ H locs →
      (∀ (pc : Nat) (ls : Array Slot) (ρ' : Rho) (H : Heap) (locs : List Loc), decode cc pc = .ok (.return_, 1) → RW G ρ' H → WS ρ s.heap ρ' H locs → some ρ' = some r → W p l e rmm s m args below meth c H locs 0 0 Q (F0 m pc ls [])) →
      ∀ ls : Array Slot, lv_has ls maxL (lv_args 0 as) → W p l e rmm s m args below meth c H locs 0 0 Q (F0 m 0 ls [])) : WM l G y (Cond.code y cc maxL none :: LW) rmm ρ as none ρ1 := by
  refine Met.ofW (cc := cc) (maxL := maxL) (ret := none) hy rfl ?_
  intro p e s m args below meth c s₁ B hml hv
  obtain ⟨rfl, hR, hK⟩ := hv
  have hts := atoms_spec (ws := Cond.code y cc maxL none :: LW) B.pre
  have hown : s.vm.findClass own = some m.cls := ho ▸ findClass_of_methodNamed B.named
  have hlk := B.notSynchronized
  rw [lg_entry_eq]
  refine body p e s m _ below meth c s.heap [] _ B.exec B.bytes hml hown (fun w hw => hts w (List.mem_cons_of_mem _ hw)) hK hR WS.rf ?_ _ (lv_entry as hlen)
  intro pc ls ρ' H2 locs2 hd hR2 hS2 hvr
  subst hr
  cases hvr
  exact W.vret B.exec B.bytes B.returns (fun t ht _ => ⟨rfl, by rw [ht]; exact hR2, by rw [ht]; exact hS2.1, hS2.2.2.2, fun q hq => by rw [ht]; exact hS2.2.1 q hq⟩) hS2.2.2.1 hd
theorem inX0 : ∀ w ∈ u_ws RX0 TX0 11, w ∈ LW := by
  intro w hw
  obtain ⟨k, hk, rfl⟩ := List.mem_map.mp hw
  have hk := List.mem_range.mp hk
  rcases (show k = 0 ∨ k = 1 ∨ k = 2 ∨ k = 3 ∨ k = 4 ∨ k = 5 ∨ k = 6 ∨ k = 7 ∨ k = 8 ∨ k = 9 ∨ k = 10 by omega) with rfl | rfl | rfl | rfl | rfl | rfl | rfl | rfl | rfl | rfl | rfl
  · exact tw_1_70
  · exact tw_1_72
  · exact tw_1_74
  · exact tw_1_76
  · exact tw_1_78
  · exact tw_1_80
  · exact tw_1_82
  · exact tw_1_84
  · exact tw_1_86
  · exact tw_1_88
  · exact tw_1_90
theorem inX6 : ∀ w ∈ u_ws RX6 TX6 6, w ∈ LW := by
  intro w hw
  obtain ⟨k, hk, rfl⟩ := List.mem_map.mp hw
  have hk := List.mem_range.mp hk
  rcases (show k = 0 ∨ k = 1 ∨ k = 2 ∨ k = 3 ∨ k = 4 ∨ k = 5 by omega) with rfl | rfl | rfl | rfl | rfl | rfl
  · exact tw_1_119
  · exact tw_1_121
  · exact tw_1_123
  · exact tw_1_125
  · exact tw_1_127
  · exact tw_1_129
theorem inX9 : ∀ w ∈ u_ws RX9 TX9 5, w ∈ LW := by
  intro w hw
  obtain ⟨k, hk, rfl⟩ := List.mem_map.mp hw
  have hk := List.mem_range.mp hk
  rcases (show k = 0 ∨ k = 1 ∨ k = 2 ∨ k = 3 ∨ k = 4 by omega) with rfl | rfl | rfl | rfl | rfl
  · exact tw_1_137
  · exact tw_1_139
  · exact tw_1_141
  · exact tw_1_143
  · exact tw_1_145
theorem inX10 : ∀ w ∈ u_ws RX10 TX10 19, w ∈ LW := by
  intro w hw
  obtain ⟨k, hk, rfl⟩ := List.mem_map.mp hw
  have hk := List.mem_range.mp hk
  rcases (show k = 0 ∨ k = 1 ∨ k = 2 ∨ k = 3 ∨ k = 4 ∨ k = 5 ∨ k = 6 ∨ k = 7 ∨ k = 8 ∨ k = 9 ∨ k = 10 ∨ k = 11 ∨ k = 12 ∨ k = 13 ∨ k = 14 ∨ k = 15 ∨ k = 16 ∨ k = 17 ∨ k = 18 by omega) with rfl | rfl | rfl | rfl | rfl | rfl | rfl | rfl | rfl | rfl | rfl | rfl | rfl | rfl | rfl | rfl | rfl | rfl | rfl
  · exact tw_4_129
  · exact tw_4_131
  · exact tw_4_133
  · exact tw_4_135
  · exact tw_4_137
  · exact tw_4_139
  · exact tw_4_141
  · exact tw_4_143
  · exact tw_4_145
  · exact tw_4_147
  · exact tw_4_149
  · exact tw_4_151
  · exact tw_4_153
  · exact tw_4_155
  · exact tw_4_157
  · exact tw_4_159
  · exact tw_4_161
  · exact tw_4_163
  · exact tw_4_165
