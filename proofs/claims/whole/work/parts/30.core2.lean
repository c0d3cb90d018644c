/-! MAKING. A method that makes cells: the next address is the heap's size z. -/
def AS (ρ0 : Rho) (H0 : Heap) (ρ : Rho) (z : Nat) (H : Heap) (locs : List Loc) : Prop := H.size = z ∧ H0.size ≤ z ∧ (∀ q, q < H0.size → ρ0 q = none → H[q]? = H0[q]?) ∧ (∀ x ∈ locs, ρ0 x.base ≠ none ∨ H0.size ≤ x.base) ∧ ∀ q, ρ q ≠ none → ρ0 q ≠ none ∨ H0.size ≤ q
theorem AS.rf {ρ : Rho} {H : Heap} : AS ρ H ρ H.size H [] := ⟨rfl, Nat.le_refl _, fun _ _ _ => rfl, fun _ h => absurd h List.not_mem_nil, fun _ h => Or.inl h⟩
theorem AS.set {ρ0 ρ : Rho} {H0 H H1 : Heap} {locs L : List Loc} {a z : Nat} {c : AC} (h : AS ρ0 H0 ρ z H locs) (ha : ρ a ≠ none) (hz : H1.size = H.size) (oq : ∀ q : Nat, q ≠ a → H1[q]? = H[q]?) (hL : ∀ x ∈ L, x.base = a) : AS ρ0 H0 (rset ρ a c) z H1 (locs ++ L) := by
  obtain ⟨h1, h2, h3, h4, h5⟩ := h
  refine ⟨hz.trans h1, h2, fun q hq hn => ?_, fun x hx => ?_, fun q hq => ?_⟩
  · rw [oq q (fun e => ?_)]
    · exact h3 q hq hn
    · subst e
      rcases h5 q ha with g | g
      · exact g hn
      · omega
  · rcases List.mem_append.mp hx with g | g
    · exact h4 x g
    · rw [hL x g]
      exact h5 a ha
  · by_cases e : q = a
    · rw [e]
      exact h5 a ha
    · unfold rset at hq
      rw [if_neg e] at hq
      exact h5 q hq
theorem AS.push {ρ0 ρ : Rho} {H0 H H1 : Heap} {locs : List Loc} {z : Nat} {c : AC} (h : AS ρ0 H0 ρ z H locs) (hz : H1.size = H.size + 1) (oq : ∀ q : Nat, q < H.size → H1[q]? = H[q]?) : AS ρ0 H0 (rset ρ z c) (z + 1) H1 locs := by
  obtain ⟨h1, h2, h3, h4, h5⟩ := h
  refine ⟨by omega, by omega, fun q hq hn => ?_, h4, fun q hq => ?_⟩
  · rw [oq q (by omega)]
    exact h3 q hq hn
  · by_cases e : q = z
    · right
      omega
    · unfold rset at hq
      rw [if_neg e] at hq
      exact h5 q hq
theorem RW.push {G : GD} {ρ : Rho} {H H1 : Heap} {z : Nat} {c : AC} (h : RW G ρ H) (hz0 : H.size = z) (hc : va_at G.1 vwCl (z, ac_E G c) H1) (oq : ∀ q : Nat, q < H.size → H1[q]? = H[q]?) : RW G (rset ρ z c) H1 := by
  intro q d hd
  unfold rset at hd
  by_cases e : q = z
  · rw [if_pos e] at hd
    cases hd
    rw [e]
    exact hc
  · rw [if_neg e] at hd
    exact (h q d hd).kept (oq q (h q d hd).lt)
def stR (ρ : Rho) (a : Nat) (i : Int32) (v : Nat) : Option Rho := match ρ a with
  | some (.inr (.inr (.inl (n, f)))) => if inb i n then (obF ρ 1 v).bind fun _ => some (rset ρ a (rC n (va_up f i.toNatClampNeg (some v)))) else none
  | _ => none
theorem stR_some {ρ ρ' : Rho} {a : Nat} {i : Int32} {v : Nat} (h : stR ρ a i v = some ρ') : ∃ n f vs, ρ a = some (rC n f) ∧ vp_in i n ∧ ρ v = some (oC 1 vs) ∧ ρ' = rset ρ a (rC n (va_up f i.toNatClampNeg (some v))) := by
  unfold stR at h
  split at h
  · rename_i n f hf
    split at h
    · rename_i hi
      obtain ⟨vs, g1, g2⟩ := Option.bind_eq_some_iff.mp h
      cases g2
      exact ⟨n, f, vs, hf, inb_vp hi, obF_some g1, rfl⟩
    · cases h
  · cases h
section MYMAKES
variable {p : Program} {l : Launch} {e : Env} {R : Room} {s : State} {m : MethodId} {args : Array Value} {below : List Frame} {meth : Method} {c : Code} {H H0 : Heap} {locs : List Loc} {cells slots : Nat} {Q : State → Prop}
variable {cc : ByteArray} {pc : Nat} {ls : Array Slot} {rest : List Value} {G : GD} {ρ0 ρ ρ' : Rho} {a z : Nat}
theorem a_stI (hexec : p.tables.exec = Jvm.exec) (hb : c.code = cc) (hK : KW G s) (hR : RW G ρ H) (hS : AS ρ0 H0 ρ z H locs) {i v : Int32} (hv : stI ρ a i v = some ρ') (hdg : decode cc pc = .ok (.iastore, 1))
    (kk : ∀ (H1 : Heap) (locs1 : List Loc), RW G ρ' H1 → AS ρ0 H0 ρ' z H1 locs1 → W p l e R s m args below meth c H1 locs1 cells slots Q (F0 m (pc + 1) ls rest)) : W p l e R s m args below meth c H locs cells slots Q (F0 m pc ls (.int v :: .int i :: .ref a :: rest)) := by
  obtain ⟨n, f, h1, h2, h3⟩ := stI_some hv
  subst h3
  refine W.iast hexec hb (hR a _ h1) ((hK.2 0 _ rfl).1 n (fun j => .int (f j))) (fun q => by cases q) (by show ¬ (i < 0 ∨ (arrV _ _ _).slots.size ≤ _); rw [arrV_size]; exact h2) rfl rfl hdg fun H1 e z oq => ?_
  refine kk H1 _ (hR.set ?_ oq) (hS.set (some_ne h1) z oq (fun z hz => by rw [List.mem_singleton.mp hz]))
  show H1[a]? = some (vp_cell _ _)
  rw [e]
  rw [vp_cell_i, vp_cell_i, arrV_store]
  congr 2
  funext q
  by_cases hq : q = i.toNatClampNeg
  · subst hq
    simp [updV, upd]
  · simp [updV, upd, hq]
theorem a_stL (hexec : p.tables.exec = Jvm.exec) (hb : c.code = cc) (hK : KW G s) (hR : RW G ρ H) (hS : AS ρ0 H0 ρ z H locs) {i : Int32} {v : Int64} (hv : stL ρ a i v = some ρ') (hdg : decode cc pc = .ok (.lastore, 1))
    (kk : ∀ (H1 : Heap) (locs1 : List Loc), RW G ρ' H1 → AS ρ0 H0 ρ' z H1 locs1 → W p l e R s m args below meth c H1 locs1 cells slots Q (F0 m (pc + 1) ls rest)) : W p l e R s m args below meth c H locs cells slots Q (F0 m pc ls (.long v :: .int i :: .ref a :: rest)) := by
  obtain ⟨n, f, h1, h2, h3⟩ := stL_some hv
  subst h3
  refine W.last hexec hb (hR a _ h1) ((hK.2 1 _ rfl).1 n (fun j => .long (f j))) (fun q => by cases q) (by show ¬ (i < 0 ∨ (arrV _ _ _).slots.size ≤ _); rw [arrV_size]; exact h2) rfl rfl hdg fun H1 e z oq => ?_
  refine kk H1 _ (hR.set ?_ oq) (hS.set (some_ne h1) z oq (fun z hz => by rw [List.mem_singleton.mp hz]))
  show H1[a]? = some (vp_cell _ _)
  rw [e]
  rw [vp_cell_l, vp_cell_l, arrV_store]
  congr 2
  funext q
  by_cases hq : q = i.toNatClampNeg
  · subst hq
    simp [updV, vp_updL]
  · simp [updV, vp_updL, hq]
theorem a_stR (hexec : p.tables.exec = Jvm.exec) (hb : c.code = cc) (hK : KW G s) (hR : RW G ρ H) (hS : AS ρ0 H0 ρ z H locs) {i : Int32} {v : Nat} (hv : stR ρ a i v = some ρ') (hdg : decode cc pc = .ok (.aastore, 1))
    (kk : ∀ (H1 : Heap) (locs1 : List Loc), RW G ρ' H1 → AS ρ0 H0 ρ' z H1 locs1 → W p l e R s m args below meth c H1 locs1 cells slots Q (F0 m (pc + 1) ls rest)) : W p l e R s m args below meth c H locs cells slots Q (F0 m pc ls (.ref v :: .int i :: .ref a :: rest)) := by
  obtain ⟨n, f, vs, h1, h2, h4, h3⟩ := stR_some hv
  subst h3
  have hlt : i.toNatClampNeg < n := Nat.not_le.mp fun q => h2 (Or.inr q)
  have h0 : ¬ i < 0 := fun q => h2 (Or.inl q)
  obtain ⟨r', hr', cellV, g1, g2, g3, -⟩ := hR v _ h4
  have hcls := (hK.1 1 (RX6, TX6, 6) rfl).2
  obtain ⟨kA, comp, k1, k2, k3, -⟩ := (hK.2 2 _ rfl).2
  have hcomp : comp = G.1.1 1 := Option.some.inj (k3.symm.trans hcls.1)
  subst hcomp
  obtain ⟨kC, hkC, -⟩ := hcls.2
  refine W.aast hexec hb (hR a _ h1) (fun q h => by cases h) (fun h => by cases h) k1 k2 rfl hkC ⟨h0, by show _ < (arrV _ _ _).slots.size; rw [arrV_size]; exact hlt⟩ g1 (fun q h => by rw [g3] at h; cases h) (by rw [g2]; exact hkC) (by rw [g2]; exact va_assign hcls) rfl rfl hdg fun H1 e z oq => ?_
  refine kk H1 _ (hR.set ?_ oq) (hS.set (some_ne h1) z oq (fun z hz => by rw [List.mem_singleton.mp hz]))
  show H1[a]? = some (vp_cell _ _)
  rw [e]
  show some ((vp_cell _ (n, .inr (.inr (.inr (.inr f))))).setSlot _ _) = some (vp_cell _ (n, .inr (.inr (.inr (.inr (va_up f i.toNatClampNeg (some v)))))))
  rw [vp_cell_q, vp_cell_q, arrV_store]
  congr 2
  funext q
  by_cases hq : q = i.toNatClampNeg
  · subst hq
    simp [updV, va_up, va_rf]
  · simp [updV, va_up, hq]
theorem a_ptV (hexec : p.tables.exec = Jvm.exec) (hb : c.code = cc) {own C : String} {T : u_T} {N ci index : Nat} {Ts : List Cond} (hts : ∀ w ∈ Ts, w.before args s = true) (hin : ∀ w ∈ u_ws C T N, w ∈ Ts) (ty0 : Nat → FieldType) (hty : ∀ k, k < N → parseFieldDescriptor (T k).2.2.1 = some (ty0 k)) (hnm : ∀ a, a < N → ∀ b, b < N → a ≠ b → (T a).2.1 ≠ (T b).2.1) (hown : s.vm.findClass own = some m.cls) (hK : KW G s) (hR : RW G ρ H) (hS0 : AS ρ0 H0 ρ z H locs) (hc : vwCl[ci]? = some (C, T, N)) (k : Nat) (hk : k < N) (hlink : (Cond.fieldLink own index (T k).1 (T k).2.1 (T k).2.2.1).before args s = true) (hfin : (T k).2.2.2 = false) {ty : FieldType} {v : Value} (hd : parseFieldDescriptor (T k).2.2.1 = some ty) (hn : narrow ty v = v) (hfit : fits ty v = true) (hv : ptV ρ ci a k v = some ρ')
    (hdg : decode cc pc = .ok (.putfield index, 3)) (kk : ∀ (H1 : Heap) (locs1 : List Loc), RW G ρ' H1 → AS ρ0 H0 ρ' z H1 locs1 → W p l e R s m args below meth c H1 locs1 cells slots Q (F0 m (pc + 3) ls rest)) : W p l e R s m args below meth c H locs cells slots Q (F0 m pc ls (v :: .ref a :: rest)) := by
  obtain ⟨fs, g1, hl, g3⟩ := ptV_some hv
  subst g3
  have hap := va_apart (own := own) hts hin ty0 hty hnm hK hc
  obtain ⟨r, h1, cell, q1, q2, q3, q4⟩ := hR a _ g1
  have hr : r = (C, T, N) := Option.some.inj (h1.symm.trans hc)
  subst hr
  obtain ⟨hS, hfc, kC, hkC, hkind⟩ := hK.1 ci _ hc
  obtain ⟨cf, kf, fi, f, hi, hsl⟩ := hS k hk
  have hlay := hts _ (hin _ (u_in_lay hk))
  unfold u_lay at hlay
  rw [if_neg (by rw [hfin]; decide)] at hlay
  have hst := (u_facts hfc hkC (u_lays hts hin hk) hi).1
  have h6 := u_store hfc hkC hkind hlay hi hd hn hfit
  refine W.putK hexec hb (f := f) ⟨hown, hlink, ⟨_, _, _, hi⟩, hst⟩ (by rw [q2]; exact h6) q1 q3 (by rw [hsl]; exact k2_hasslot (q4 k hk)) rfl rfl hdg fun H' e1 e2 e3 => ?_
  rw [hsl] at e1
  exact kk H' _ (hR.set ⟨_, hc, t_OB.to (V := updV (vp_V fs) k v) ⟨_, e1, q2, q3, t_set q4 hap hk v⟩ (fun j _ => vp_updV_set hl v j)⟩ e3) (hS0.set (some_ne g1) e2 e3 (fun z hz => by rw [List.mem_singleton.mp hz]))
theorem a_ptF (hexec : p.tables.exec = Jvm.exec) (hb : c.code = cc) {own C : String} {T : u_T} {N ci index : Nat} {Ts : List Cond} (hts : ∀ w ∈ Ts, w.before args s = true) (hin : ∀ w ∈ u_ws C T N, w ∈ Ts) (ty0 : Nat → FieldType) (hty : ∀ k, k < N → parseFieldDescriptor (T k).2.2.1 = some (ty0 k)) (hnm : ∀ a, a < N → ∀ b, b < N → a ≠ b → (T a).2.1 ≠ (T b).2.1) (hown : s.vm.findClass own = some m.cls) (hK : KW G s) (hR : RW G ρ H) (hS0 : AS ρ0 H0 ρ z H locs) (hc : vwCl[ci]? = some (C, T, N)) (k : Nat) (hk : k < N) (hlink : (Cond.fieldLink own index (T k).1 (T k).2.1 (T k).2.2.1).before args s = true) (hfin : (T k).2.2.2 = true) (hin2 : meth.name = "<init>") (hdecl : (T k).1 = own) {ty : FieldType} {v : Value} (hd : parseFieldDescriptor (T k).2.2.1 = some ty) (hn : narrow ty v = v) (hfit : fits ty v = true) (hv : ptV ρ ci a k v = some ρ')
    (hdg : decode cc pc = .ok (.putfield index, 3)) (kk : ∀ (H1 : Heap) (locs1 : List Loc), RW G ρ' H1 → AS ρ0 H0 ρ' z H1 locs1 → W p l e R s m args below meth c H1 locs1 cells slots Q (F0 m (pc + 3) ls rest)) : W p l e R s m args below meth c H locs cells slots Q (F0 m pc ls (v :: .ref a :: rest)) := by
  obtain ⟨fs, g1, hl, g3⟩ := ptV_some hv
  subst g3
  have hap := va_apart (own := own) hts hin ty0 hty hnm hK hc
  obtain ⟨r, h1, cell, q1, q2, q3, q4⟩ := hR a _ g1
  have hr : r = (C, T, N) := Option.some.inj (h1.symm.trans hc)
  subst hr
  obtain ⟨hS, hfc, kC, hkC, hkind⟩ := hK.1 ci _ hc
  obtain ⟨cf, kf, fi, f, hi, hsl⟩ := hS k hk
  have hlay := hts _ (hin _ (u_in_lay hk))
  unfold u_lay at hlay
  rw [if_pos hfin] at hlay
  have hst := (u_facts hfc hkC (u_lays hts hin hk) hi).1
  have hcf : m.cls = cf := by
    obtain ⟨_, _, c', _, _, _, -, -, hf', -, -, -, hown2, -⟩ := Cond.laysFinal_spec hlay
    have e1 : c' = cf := by have := hi.symm.trans hf'; simp at this; exact this.1.symm
    rw [hdecl] at hown2
    rw [← e1]; exact Option.some.inj (hown.symm.trans hown2)
  have h6 := u_fits hfc hkC hkind (Or.inr hlay) hi hd hn hfit
  refine W.putFinK hexec hb hown hlink hi hst hcf hin2 (by rw [q2]; exact h6) q1 q3 (by rw [hsl]; exact k2_hasslot (q4 k hk)) rfl rfl hdg fun H' e1 e2 e3 => ?_
  rw [hsl] at e1
  exact kk H' _ (hR.set ⟨_, hc, t_OB.to (V := updV (vp_V fs) k v) ⟨_, e1, q2, q3, t_set q4 hap hk v⟩ (fun j _ => vp_updV_set hl v j)⟩ e3) (hS0.set (some_ne g1) e2 e3 (fun z hz => by rw [List.mem_singleton.mp hz]))
theorem a_new (hexec : p.tables.exec = Jvm.exec) (hb : c.code = cc) {own C : String} {T : u_T} {N ci index : Nat} {Ts : List Cond} (hts : ∀ w ∈ Ts, w.before args s = true) (hin : ∀ w ∈ u_ws C T N, w ∈ Ts) (ty : Nat → FieldType) (hty : ∀ k, k < N → parseFieldDescriptor (T k).2.2.1 = some (ty k)) (hown : s.vm.findClass own = some m.cls) (hcl : (Cond.classLink own index C).before args s = true) (hinst : (Cond.instantiable C N).before args s = true) (hini : (Cond.initialized C).before args s = true)
    (hK : KW G s) (hR : RW G ρ H) (hS : AS ρ0 H0 ρ z H locs) (hc : vwCl[ci]? = some (C, T, N)) {fs : List Value} (hfs : ∀ j, j < N → defaultValue (ty j) = vp_V fs j) (hcells : cells + 1 ≤ R.cells) (hslots : slots + N ≤ R.slots) (hdg : decode cc pc = .ok (.new index, 3))
    (kk : ∀ H1 : Heap, RW G (rset ρ z (oC ci fs)) H1 → AS ρ0 H0 (rset ρ z (oC ci fs)) (z + 1) H1 locs →
      W p l e R s m args below meth c H1 locs (cells + 1) (slots + N) Q (F0 m (pc + 3) ls (.ref z :: rest))) : W p l e R s m args below meth c H locs cells slots Q (F0 m pc ls rest) := by
  have hKn := hK.1 ci _ hc
  refine W.newcK hexec hb hown hcl hinst hini rfl hdg hcells hslots hKn.2.1 hS.1 fun H1 kC hkC e1 z1 o1 => ?_
  have z1' : H1.size = H.size + 1 := by rw [z1, hS.1]
  have o1' : ∀ q : Nat, q < H.size → H1[q]? = H[q]? := fun q hq => o1 q (by rw [← hS.1]; exact hq)
  exact kk H1 (hR.push hS.1 ⟨_, hc, (u_born ty hts hin hKn hkC e1 hty).to hfs⟩ o1') (hS.push z1' o1')
theorem a_newI (hexec : p.tables.exec = Jvm.exec) (hb : c.code = cc) (harr : (Cond.arrayClass .int).before args s = true) (hK : KW G s) (hR : RW G ρ H) (hS : AS ρ0 H0 ρ z H locs) {n : Int32} {N' : Nat} (hn : ¬ n < 0) (hN : n.toNatClampNeg = N') (hbytes : N' * 4 ≤ 536870912) (hcells : cells + 1 ≤ R.cells) (hslots : slots + N' ≤ R.slots) (hdg : decode cc pc = .ok (.newarray .int, 2))
    (kk : ∀ H1 : Heap, RW G (rset ρ z (iC N' (fun _ => 0))) H1 → AS ρ0 H0 (rset ρ z (iC N' (fun _ => 0))) (z + 1) H1 locs →
      W p l e R s m args below meth c H1 locs (cells + 1) (slots + N') Q (F0 m (pc + 2) ls (.ref z :: rest))) : W p l e R s m args below meth c H locs cells slots Q (F0 m pc ls (.int n :: rest)) := by
  refine va_newaK (atype := .int) hexec hb harr rfl hdg rfl hn hN hbytes hcells hslots hS.1 fun H1 cA e1 z1 o1 hAr hNm => ?_
  have z1' : H1.size = H.size + 1 := by rw [z1, hS.1]
  have o1' : ∀ q : Nat, q < H.size → H1[q]? = H[q]? := fun q hq => o1 q (by rw [← hS.1]; exact hq)
  have hA : cA = G.2.1 := Option.some.inj (hNm.symm.trans (hK.2 0 _ rfl).2)
  subst hA
  exact kk H1 (hR.push hS.1 e1 o1') (hS.push z1' o1')
theorem a_newL (hexec : p.tables.exec = Jvm.exec) (hb : c.code = cc) (harr : (Cond.arrayClass .long).before args s = true) (hK : KW G s) (hR : RW G ρ H) (hS : AS ρ0 H0 ρ z H locs) {n : Int32} {N' : Nat} (hn : ¬ n < 0) (hN : n.toNatClampNeg = N') (hbytes : N' * 8 ≤ 536870912) (hcells : cells + 1 ≤ R.cells) (hslots : slots + N' ≤ R.slots) (hdg : decode cc pc = .ok (.newarray .long, 2))
    (kk : ∀ H1 : Heap, RW G (rset ρ z (lC N' (fun _ => 0))) H1 → AS ρ0 H0 (rset ρ z (lC N' (fun _ => 0))) (z + 1) H1 locs →
      W p l e R s m args below meth c H1 locs (cells + 1) (slots + N') Q (F0 m (pc + 2) ls (.ref z :: rest))) : W p l e R s m args below meth c H locs cells slots Q (F0 m pc ls (.int n :: rest)) := by
  refine va_newaK (atype := .long) hexec hb harr rfl hdg rfl hn hN hbytes hcells hslots hS.1 fun H1 cA e1 z1 o1 hAr hNm => ?_
  have z1' : H1.size = H.size + 1 := by rw [z1, hS.1]
  have o1' : ∀ q : Nat, q < H.size → H1[q]? = H[q]? := fun q hq => o1 q (by rw [← hS.1]; exact hq)
  have hA : cA = G.2.2.1 := Option.some.inj (hNm.symm.trans (hK.2 1 _ rfl).2)
  subst hA
  exact kk H1 (hR.push hS.1 e1 o1') (hS.push z1' o1')
theorem a_newR (hexec : p.tables.exec = Jvm.exec) (hb : c.code = cc) {own : String} {index : Nat} (hown : s.vm.findClass own = some m.cls) (hclink : (Cond.classLink own index RX6).before args s = true) (hover : va_AO RX6 s) (hK : KW G s) (hR : RW G ρ H) (hS : AS ρ0 H0 ρ z H locs) {n : Int32} {N' : Nat} (hn : ¬ n < 0) (hN : n.toNatClampNeg = N') (hbytes : N' * 4 ≤ 536870912) (hcells : cells + 1 ≤ R.cells) (hslots : slots + N' ≤ R.slots) (hdg : decode cc pc = .ok (.anewarray index, 3))
    (kk : ∀ H1 : Heap, RW G (rset ρ z (rC N' (fun _ => none))) H1 → AS ρ0 H0 (rset ρ z (rC N' (fun _ => none))) (z + 1) H1 locs →
      W p l e R s m args below meth c H1 locs (cells + 1) (slots + N') Q (F0 m (pc + 3) ls (.ref z :: rest))) : W p l e R s m args below meth c H locs cells slots Q (F0 m pc ls (.int n :: rest)) := by
  subst hN
  obtain ⟨hz, hS'⟩ := id hS
  subst hz
  refine W.anew hexec hb hown hclink (va_AO.use hover) rfl hdg rfl hn hbytes hcells hslots fun cA kA comp f1 f2 f3 f4 => ?_
  generalize hH1 : H.push ({ cls := cA, slots := Array.replicate n.toNatClampNeg .null, vm := .none } : Cell) = H1
  have z1 : H1.size = H.size + 1 := by rw [← hH1, Array.size_push]
  have e1 : H1[H.size]? = some (arrV cA n.toNatClampNeg (fun _ => .null)) := by rw [← hH1, Array.getElem?_push_size, ← arrV_new]
  have o1 : ∀ q : Nat, q < H.size → H1[q]? = H[q]? := fun q hq => by rw [← hH1, Array.getElem?_push, if_neg (Nat.ne_of_lt hq)]
  obtain ⟨kA', comp', g1, g2, g3, g4⟩ := (hK.2 2 _ rfl).2
  have hA : cA = G.2.2.2 := Option.some.inj (f1.symm.trans g4)
  subst hA
  exact kk H1 (hR.push rfl e1 o1) (hS.push z1 o1)
variable {y : MethodName} {bytes : ByteArray} {maxL nL n index mc ms z' : Nat} {ret : Option FieldType} {ws : List Cond} {rmm : Room} {Ts : List Cond} {own C : String} {b : Nat} {As st0 : List Value}
def PcA (G : GD) (ρ : Rho) (z : Nat) (as : List Value) : Array Value → State → Prop := va_Pc as (fun U => RW G ρ U.heap ∧ KW G U ∧ U.heap.size = z ∧ va_AO RX6 U)
def AQ (G : GD) (ρ : Rho) (z : Nat) (r : Option Value) (ρ' : Rho) (z' : Nat) : Array Value → State → Outcome → State → Prop := fun _ st o t => o = .returned r ∧ RW G ρ' t.heap ∧ t.heap.size = z' ∧ z ≤ z' ∧ (∀ q, ρ' q ≠ none → ρ q ≠ none ∨ z ≤ q) ∧ ∀ q, q < z → ρ q = none → t.heap[q]? = st.heap[q]?
def AM (l : Launch) (G : GD) (y : MethodName) (ws : List Cond) (rm : Room) (ρ : Rho) (z : Nat) (as : List Value) (r : Option Value) (ρ' : Rho) (z' mc ms : Nat) : Prop :=
  Met l y ws rm (PcA G ρ z as) (AQ G ρ z r ρ' z') mc ms (fun q => ρ q ≠ none ∨ z ≤ q)
theorem PcA_blind (G : GD) (ρ : Rho) (z : Nat) (as : List Value) : FrameBlind (PcA G ρ z as) := fun a U g mk h => ⟨h.1, h.2.1, va_K.moved (u := U) (U := U.calling g mk a) (Vm.Alike.refl U.vm) h.2.2.1, h.2.2.2.1, va_AO.moved (u := U) (U := U.calling g mk a) (Vm.Alike.refl U.vm) h.2.2.2.2⟩
theorem a_pre {U : State} (hK : KW G s) (hO : va_AO RX6 s) (hR : RW G ρ H) (hz : H.size = z) (as : List Value) (hU : U.heap = H) (hW : s.WarmedH U.vm) : PcA G ρ z as as.toArray U := ⟨rfl, by rw [hU]; exact hR, va_K.moved hW.alike hK, by rw [hU]; exact hz, va_AO.moved hW.alike hO⟩
theorem a_run {r : Option Value} {ar : Array Value} (hr : va_Run p l e R s m args below meth c H locs cells slots mc ms (F0 m pc ls st0) rest (AQ G ρ z r ρ' z' ar) (fun q => ρ q ≠ none ∨ z ≤ q)) (hS : AS ρ0 H0 ρ z H locs)
    {st1 : List Value} (h1 : st1 = r.toList ++ rest) (kk : ∀ (H1 : Heap) (locs1 : List Loc), RW G ρ' H1 → AS ρ0 H0 ρ' z' H1 locs1 → W p l e R s m args below meth c H1 locs1 (cells + mc) (slots + ms) Q (F0 m (pc + 3) ls st1)) : W p l e R s m args below meth c H locs cells slots Q (F0 m pc ls st0) := by
  subst h1
  obtain ⟨g1, g2, g3, g4, g5⟩ := hS
  intro T hT X
  obtain ⟨v', st₀, t, T', L, h0, X', hL, e1, e2, ⟨ho, hR', hz, hzz, hd, hk⟩, st⟩ := hr T hT X
  cases ho
  rw [h0] at hk
  have key : ∀ q, ρ q ≠ none ∨ z ≤ q → ρ0 q ≠ none ∨ H0.size ≤ q := fun q hq => by
    rcases hq with h | h
    · exact g5 q h
    · right; omega
  obtain ⟨t2, a1, b1⟩ := kk t.heap (locs ++ L) hR' ⟨hz, by omega, fun q hq hn => by
      have hnq : ρ q = none := Classical.byContradiction fun hn2 => by
        rcases g5 q hn2 with h | h
        · exact h hn
        · omega
      rw [hk q (by omega) hnq]
      exact g3 q hq hn, fun x hx => by
      rcases List.mem_append.mp hx with h | h
      · exact g4 x h
      · exact key _ (hL x h), fun q hq => key q (hd q hq)⟩ T' e1 X'
  exact ⟨t2, st t2 a1, b1⟩
theorem a_callS {r : Option Value} (S : CallFix p m c cc nL s args Ts own) (hM : AM l G y ws rmm ρ z As r ρ' z' mc ms) (cw : CallB R s args own index y bytes maxL ret ws rmm mc ms n ∧ (Cond.static y).before args s = true) (hK : KW G s) (hO : va_AO RX6 s) (hR : RW G ρ H) (hS : AS ρ0 H0 ρ z H locs)
    (hn : As.length = n) (hsize : ls.size = nL) (hst : st0 = As.reverse ++ rest) (hcap : (rest.map fun v => v.category).sum ≤ 8) (hdg : decode cc pc = .ok (.invokestatic index, 3)) (hf : cells + mc ≤ R.cells ∧ slots + ms ≤ R.slots) {st1 : List Value} (h1 : st1 = r.toList ++ rest)
    (kk : ∀ (H1 : Heap) (locs1 : List Loc), RW G ρ' H1 → AS ρ0 H0 ρ' z' H1 locs1 → W p l e R s m args below meth c H1 locs1 (cells + mc) (slots + ms) Q (F0 m (pc + 3) ls st1)) : W p l e R s m args below meth c H locs cells slots Q (F0 m pc ls st0) :=
  a_run (va_runS S hM cw ⟨PcA_blind G ρ z As, fun U hU hW => a_pre hK hO hR hS.1 As hU hW⟩ rfl hn hsize hst (lv_room (rest := st0) (ls := ls) (pc := pc) (m := m) hcap) hdg hf) hS h1 kk
theorem a_callV {r : Option Value} (S : CallFix p m c cc nL s args Ts own) {ci : Nat} {q : vw_C} {u : Unit} (hM : AM l G y ws rmm ρ z (.ref b :: As) r ρ' z' mc ms) (cw : CallW R s args own q.1 index y bytes maxL ret ws rmm mc ms n) (hK : KW G s) (hO : va_AO RX6 s) (hR : RW G ρ H) (hS : AS ρ0 H0 ρ z H locs) (hc : vwCl[ci]? = some q) (hv : ckO ρ ci b = some u)
    (hn : As.length = n) (hsize : ls.size = nL) (hst : st0 = As.reverse ++ .ref b :: rest) (hcap : (rest.map fun v => v.category).sum ≤ 8) (hdg : decode cc pc = .ok (.invokevirtual index, 3)) (hf : cells + mc ≤ R.cells ∧ slots + ms ≤ R.slots) {st1 : List Value} (h1 : st1 = r.toList ++ rest)
    (kk : ∀ (H1 : Heap) (locs1 : List Loc), RW G ρ' H1 → AS ρ0 H0 ρ' z' H1 locs1 → W p l e R s m args below meth c H1 locs1 (cells + mc) (slots + ms) Q (F0 m (pc + 3) ls st1)) : W p l e R s m args below meth c H locs cells slots Q (F0 m pc ls st0) :=
  a_run (va_runV S hM cw ⟨PcA_blind G ρ z _, r_recv hK hR hc hv, fun U hU hW => a_pre hK hO hR hS.1 (.ref b :: As) hU hW⟩ rfl hn hsize hst (lv_room (rest := st0) (ls := ls) (pc := pc) (m := m) hcap) hdg hf) hS h1 kk
theorem a_callI (S : CallFix p m c cc nL s args Ts own) (hM : AM l G y ws rmm ρ z (.ref b :: As) none ρ' z' mc ms) (cw : CallB R s args own index y bytes maxL none ws rmm mc ms n ∧ y.name = "<init>" ∧ (Cond.instanceMethod y).before args s = true) (hK : KW G s) (hO : va_AO RX6 s) (hR : RW G ρ H) (hS : AS ρ0 H0 ρ z H locs)
    (hn : As.length = n) (hsize : ls.size = nL) (hst : st0 = As.reverse ++ .ref b :: rest) (hcap : (rest.map fun v => v.category).sum ≤ 8) (hdg : decode cc pc = .ok (.invokespecial index, 3)) (hf : cells + mc ≤ R.cells ∧ slots + ms ≤ R.slots) {st1 : List Value} (h1 : st1 = rest)
    (kk : ∀ (H1 : Heap) (locs1 : List Loc), RW G ρ' H1 → AS ρ0 H0 ρ' z' H1 locs1 → W p l e R s m args below meth c H1 locs1 (cells + mc) (slots + ms) Q (F0 m (pc + 3) ls st1)) : W p l e R s m args below meth c H locs cells slots Q (F0 m pc ls st0) :=
  a_run (r := none) (va_runI S hM cw ⟨PcA_blind G ρ z _, fun U hU hW => a_pre hK hO hR hS.1 (.ref b :: As) hU hW⟩ rfl hn hsize hst (lv_room (rest := st0) (ls := ls) (pc := pc) (m := m) hcap) hdg hf) hS h1 kk
/-- a method that writes, called where cells are made -/
theorem aw_run {r : Option Value} {ar : Array Value} (hr : va_Run p l e R s m args below meth c H locs cells slots 0 0 (F0 m pc ls st0) rest (WQ G ρ r ρ' ar) (fun q => ρ q ≠ none)) (hS : AS ρ0 H0 ρ z H locs)
    {st1 : List Value} (h1 : st1 = r.toList ++ rest) (kk : ∀ (H1 : Heap) (locs1 : List Loc), RW G ρ' H1 → AS ρ0 H0 ρ' z H1 locs1 → W p l e R s m args below meth c H1 locs1 cells slots Q (F0 m (pc + 3) ls st1)) : W p l e R s m args below meth c H locs cells slots Q (F0 m pc ls st0) := by
  subst h1
  obtain ⟨g1, g2, g3, g4, g5⟩ := hS
  intro T hT X
  obtain ⟨v', st₀, t, T', L, h0, X', hL, e1, e2, ⟨ho, hR', hz, hd, hk⟩, st⟩ := hr T hT X
  cases ho
  rw [h0] at hz hk
  obtain ⟨t2, a1, b1⟩ := kk t.heap (locs ++ L) hR' ⟨hz.trans g1, g2, fun q hq hn => by
      have hnq : ρ q = none := Classical.byContradiction fun hn2 => by
        rcases g5 q hn2 with h | h
        · exact h hn
        · omega
      rw [hk q hnq]
      exact g3 q hq hn, fun x hx => by
      rcases List.mem_append.mp hx with h | h
      · exact g4 x h
      · exact g5 _ (hL x h), fun q hq => g5 q (hd q hq)⟩ T' e1 X'
  exact ⟨t2, st t2 a1, b1⟩
theorem aw_callS {r : Option Value} (S : CallFix p m c cc nL s args Ts own) (hM : WM l G y ws rmm ρ As r ρ') (cw : CallB R s args own index y bytes maxL ret ws rmm 0 0 n ∧ (Cond.static y).before args s = true) (hK : KW G s) (hR : RW G ρ H) (hS : AS ρ0 H0 ρ z H locs)
    (hn : As.length = n) (hsize : ls.size = nL) (hst : st0 = As.reverse ++ rest) (hcap : (rest.map fun v => v.category).sum ≤ 8) (hdg : decode cc pc = .ok (.invokestatic index, 3)) (hf : cells ≤ R.cells ∧ slots ≤ R.slots) {st1 : List Value} (h1 : st1 = r.toList ++ rest)
    (kk : ∀ (H1 : Heap) (locs1 : List Loc), RW G ρ' H1 → AS ρ0 H0 ρ' z H1 locs1 → W p l e R s m args below meth c H1 locs1 cells slots Q (F0 m (pc + 3) ls st1)) : W p l e R s m args below meth c H locs cells slots Q (F0 m pc ls st0) :=
  aw_run (va_runS S hM cw ⟨PcR_blind G ρ As, fun U hU hW => r_pre hK hR As hU hW⟩ rfl hn hsize hst (lv_room (rest := st0) (ls := ls) (pc := pc) (m := m) hcap) hdg hf) hS h1 kk
theorem aw_callV {r : Option Value} (S : CallFix p m c cc nL s args Ts own) {ci : Nat} {q : vw_C} {u : Unit} (hM : WM l G y ws rmm ρ (.ref b :: As) r ρ') (cw : CallW R s args own q.1 index y bytes maxL ret ws rmm 0 0 n) (hK : KW G s) (hR : RW G ρ H) (hS : AS ρ0 H0 ρ z H locs) (hc : vwCl[ci]? = some q) (hv : ckO ρ ci b = some u)
    (hn : As.length = n) (hsize : ls.size = nL) (hst : st0 = As.reverse ++ .ref b :: rest) (hcap : (rest.map fun v => v.category).sum ≤ 8) (hdg : decode cc pc = .ok (.invokevirtual index, 3)) (hf : cells ≤ R.cells ∧ slots ≤ R.slots) {st1 : List Value} (h1 : st1 = r.toList ++ rest)
    (kk : ∀ (H1 : Heap) (locs1 : List Loc), RW G ρ' H1 → AS ρ0 H0 ρ' z H1 locs1 → W p l e R s m args below meth c H1 locs1 cells slots Q (F0 m (pc + 3) ls st1)) : W p l e R s m args below meth c H locs cells slots Q (F0 m pc ls st0) :=
  aw_run (va_runV S hM cw ⟨PcR_blind G ρ _, r_recv hK hR hc hv, fun U hU hW => r_pre hK hR (.ref b :: As) hU hW⟩ rfl hn hsize hst (lv_room (rest := st0) (ls := ls) (pc := pc) (m := m) hcap) hdg hf) hS h1 kk
end MYMAKES
section MYCALLS2
variable {R : Room} {s : State} {args : Array Value} {own : String} {index maxL n mc ms : Nat} {y : MethodName} {bytes : ByteArray} {rmm : Room}
theorem cu_I (ht : ∀ w ∈ LW, w.before args s = true) (h1 : Cond.code y bytes maxL none ∈ LW) (h2 : Cond.methodLink own index y ∈ LW) (h3 : Cond.instanceMethod y ∈ LW) (h4 : Cond.initialized y.cls ∈ LW) (hd : hdP y n) (hy : y.name = "<init>") (hrc : rmm.cells = mc) (hrs : rmm.slots = ms) (hR : rmm.frames + 1 ≤ R.frames ∧ 8 + (maxL + 11) + rmm.locals ≤ R.locals) : CallB R s args own index y bytes maxL none (Cond.code y bytes maxL none :: LW) rmm mc ms n ∧ y.name = "<init>" ∧ (Cond.instanceMethod y).before args s = true :=
  ⟨cu_B ht h1 h2 h4 hd hrc hrs hR, hy, ht _ h3⟩
end MYCALLS2
theorem AM.ofV {l : Launch} {G : GD} {y : MethodName} {cc : ByteArray} {maxL mc ms z z1 : Nat} {rmm : Room} {ρ ρ1 : Rho} {as : List Value} {r : Rho × Nat} {own : String} (hr : r = (ρ1, z1)) (hy : plainName y.cls = true) (ho : y.cls = own) (hlen : (lg_sl as).length ≤ maxL)
    (body : ∀ (p : Program) (e : Env) (s : State) (m : MethodId) (args : Array Value) (below : List Frame) (meth : Method) (c : Code) (H : Heap) (locs : List Loc) (Q : State → Prop), p.tables.exec = Jvm.exec → c.code = cc → c.maxLocals = maxL → s.vm.findClass own = some m.cls → (∀ w ∈ LW, w.before args s = true) → meth.name = y.name → KW G s → va_AO RX6 s → RW G ρ H → AS ρ s.heap ρ z H locs →
      (∀ (pc : Nat) (ls : Array Slot) (ρ' : Rho) (z' : Nat) (H : Heap) (locs : List Loc), decode cc pc = .ok (.return_, 1) → RW G ρ' H → AS ρ s.heap ρ' z' H locs → some (ρ', z') = some r → W p l e rmm s m args below meth c H locs mc ms Q (F0 m pc ls [])) →
      ∀ ls : Array Slot, lv_has ls maxL (lv_args 0 as) → W p l e rmm s m args below meth c H locs 0 0 Q (F0 m 0 ls [])) : AM l G y (Cond.code y cc maxL none :: LW) rmm ρ z as none ρ1 z1 mc ms := by
  refine Met.ofW (cc := cc) (maxL := maxL) (ret := none) hy rfl ?_
  intro p e s m args below meth c s₁ B hml hv
  obtain ⟨rfl, hR, hK, hz, hO⟩ := hv
  subst hz
  have hts := atoms_spec (ws := Cond.code y cc maxL none :: LW) B.pre
  have hown : s.vm.findClass own = some m.cls := ho ▸ findClass_of_methodNamed B.named
  have hlk := B.notSynchronized
  have hin : meth.name = y.name := (name_of_methodNamed B.named B.method).1
  rw [lg_entry_eq]
  refine body p e s m _ below meth c s.heap [] _ B.exec B.bytes hml hown (fun w hw => hts w (List.mem_cons_of_mem _ hw)) hin hK hO hR AS.rf ?_ _ (lv_entry as hlen)
  intro pc ls ρ' z' H2 locs2 hd hR2 hS2 hvr
  subst hr
  cases hvr
  exact W.vret B.exec B.bytes B.returns (fun t ht _ => ⟨rfl, by rw [ht]; exact hR2, by rw [ht]; exact hS2.1, hS2.2.1, hS2.2.2.2.2, fun q hq hn => by rw [ht]; exact hS2.2.2.1 q hq hn⟩) hS2.2.2.2.1 hd
theorem AM.ofI {l : Launch} {G : GD} {y : MethodName} {cc : ByteArray} {maxL mc ms z z1 : Nat} {rmm : Room} {ρ ρ1 : Rho} {as : List Value} {r0 : Int32} {r : Int32 × Rho × Nat} {own : String} (hr : r = (r0, ρ1, z1)) (hy : plainName y.cls = true) (ho : y.cls = own) (hlen : (lg_sl as).length ≤ maxL)
    (body : ∀ (p : Program) (e : Env) (s : State) (m : MethodId) (args : Array Value) (below : List Frame) (meth : Method) (c : Code) (H : Heap) (locs : List Loc) (Q : State → Prop), p.tables.exec = Jvm.exec → c.code = cc → c.maxLocals = maxL → s.vm.findClass own = some m.cls → (∀ w ∈ LW, w.before args s = true) → meth.name = y.name → KW G s → va_AO RX6 s → RW G ρ H → AS ρ s.heap ρ z H locs →
      (∀ (pc : Nat) (ls : Array Slot) (v : Int32) (ρ' : Rho) (z' : Nat) (H : Heap) (locs : List Loc), decode cc pc = .ok (.ireturn, 1) → RW G ρ' H → AS ρ s.heap ρ' z' H locs → some (v, ρ', z') = some r → W p l e rmm s m args below meth c H locs mc ms Q (F0 m pc ls [.int v])) →
      ∀ ls : Array Slot, lv_has ls maxL (lv_args 0 as) → W p l e rmm s m args below meth c H locs 0 0 Q (F0 m 0 ls [])) : AM l G y (Cond.code y cc maxL (some .int) :: LW) rmm ρ z as (some (.int r0)) ρ1 z1 mc ms := by
  refine Met.ofW (cc := cc) (maxL := maxL) (ret := (some .int)) hy rfl ?_
  intro p e s m args below meth c s₁ B hml hv
  obtain ⟨rfl, hR, hK, hz, hO⟩ := hv
  subst hz
  have hts := atoms_spec (ws := Cond.code y cc maxL (some .int) :: LW) B.pre
  have hown : s.vm.findClass own = some m.cls := ho ▸ findClass_of_methodNamed B.named
  have hlk := B.notSynchronized
  have hin : meth.name = y.name := (name_of_methodNamed B.named B.method).1
  rw [lg_entry_eq]
  refine body p e s m _ below meth c s.heap [] _ B.exec B.bytes hml hown (fun w hw => hts w (List.mem_cons_of_mem _ hw)) hin hK hO hR AS.rf ?_ _ (lv_entry as hlen)
  intro pc ls v ρ' z' H2 locs2 hd hR2 hS2 hvr
  subst hr
  cases hvr
  exact W.iret B.exec B.bytes B.returns (fun t ht _ => ⟨rfl, by rw [ht]; exact hR2, by rw [ht]; exact hS2.1, hS2.2.1, hS2.2.2.2.2, fun q hq hn => by rw [ht]; exact hS2.2.2.1 q hq hn⟩) hS2.2.2.2.1 hd
theorem AM.ofR {l : Launch} {G : GD} {y : MethodName} {cc : ByteArray} {maxL mc ms z z1 : Nat} {rmm : Room} {ρ ρ1 : Rho} {as : List Value} {r0 : Nat} {r : Nat × Rho × Nat} {own : String} (hr : r = (r0, ρ1, z1)) (hy : plainName y.cls = true) (ho : y.cls = own) (hlen : (lg_sl as).length ≤ maxL)
    (body : ∀ (p : Program) (e : Env) (s : State) (m : MethodId) (args : Array Value) (below : List Frame) (meth : Method) (c : Code) (H : Heap) (locs : List Loc) (Q : State → Prop), p.tables.exec = Jvm.exec → c.code = cc → c.maxLocals = maxL → s.vm.findClass own = some m.cls → (∀ w ∈ LW, w.before args s = true) → meth.name = y.name → KW G s → va_AO RX6 s → RW G ρ H → AS ρ s.heap ρ z H locs →
      (∀ (pc : Nat) (ls : Array Slot) (v : Nat) (ρ' : Rho) (z' : Nat) (H : Heap) (locs : List Loc), decode cc pc = .ok (.areturn, 1) → RW G ρ' H → AS ρ s.heap ρ' z' H locs → some (v, ρ', z') = some r → W p l e rmm s m args below meth c H locs mc ms Q (F0 m pc ls [.ref v])) →
      ∀ ls : Array Slot, lv_has ls maxL (lv_args 0 as) → W p l e rmm s m args below meth c H locs 0 0 Q (F0 m 0 ls [])) : AM l G y (Cond.code y cc maxL (some (.array .int)) :: LW) rmm ρ z as (some (.ref r0)) ρ1 z1 mc ms := by
  refine Met.ofW (cc := cc) (maxL := maxL) (ret := (some (.array .int))) hy rfl ?_
  intro p e s m args below meth c s₁ B hml hv
  obtain ⟨rfl, hR, hK, hz, hO⟩ := hv
  subst hz
  have hts := atoms_spec (ws := Cond.code y cc maxL (some (.array .int)) :: LW) B.pre
  have hown : s.vm.findClass own = some m.cls := ho ▸ findClass_of_methodNamed B.named
  have hlk := B.notSynchronized
  have hin : meth.name = y.name := (name_of_methodNamed B.named B.method).1
  rw [lg_entry_eq]
  refine body p e s m _ below meth c s.heap [] _ B.exec B.bytes hml hown (fun w hw => hts w (List.mem_cons_of_mem _ hw)) hin hK hO hR AS.rf ?_ _ (lv_entry as hlen)
  intro pc ls v ρ' z' H2 locs2 hd hR2 hS2 hvr
  subst hr
  cases hvr
  exact W.aret B.exec B.bytes B.returns (Or.inr ⟨_, rfl⟩) (Or.inr ⟨_, rfl⟩) (fun t ht _ => ⟨rfl, by rw [ht]; exact hR2, by rw [ht]; exact hS2.1, hS2.2.1, hS2.2.2.2.2, fun q hq hn => by rw [ht]; exact hS2.2.2.1 q hq hn⟩) hS2.2.2.2.1 hd
