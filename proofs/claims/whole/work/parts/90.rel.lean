/-! PURE: what ties both sides' cells together. -/
abbrev HT : Type := (Nat → Nat) × Nat
def XO (ρ : Rho) (z h : Nat) : Prop := ρ z = some (oC 2 [.ref (z + 1), .ref (z + 7), .ref (z + 13), .ref (z + 19), .int (nI h)])
def ShX (ρ : Rho) (z : Nat) (F E : Nat → Nat → Int32) : Prop := (∃ f : Nat → Option Nat, ρ (z + 19) = some (rC 8 f) ∧ ∀ e, e < 8 → f e = some (z + 20 + 2 * e)) ∧ ∀ e, e < 8 → ρ (z + 20 + 2 * e) = some (oC 1 [.int (F e 0), .int (F e 1), .int (F e 2), .int (F e 3), .int (F e 4), .ref (z + 21 + 2 * e)]) ∧ ρ (z + 21 + 2 * e) = some (iC 100 (E e))
def MO (ρ : Rho) (z : Nat) (mo : Nat → Int32) : Prop := ρ (z + 36) = some (oC 3 [.ref (z + 37), .ref (z + 38), .ref (z + 39), .ref (z + 40), .int (mo 0), .int (mo 1), .int (mo 2), .int (mo 3), .ref (z + 41), .ref (z + 42), .int (mo 4), .int (mo 5), .ref (z + 43), .ref (z + 44), .ref (z + 45), .ref (z + 46), .ref (z + 47), .ref (z + 48), .int (mo 6)])
def ShM (ρ : Rho) (z : Nat) (K : Nat → Nat → Int32) (M : Nat → Int32) : Prop := (ρ (z + 43) = some (iC 8 (K 0)) ∧ ρ (z + 44) = some (iC 8 (K 1)) ∧ ρ (z + 45) = some (iC 8 (K 2)) ∧ ρ (z + 46) = some (iC 8 (K 3)) ∧ ρ (z + 47) = some (iC 8 (K 4))) ∧ ρ (z + 48) = some (iC 800 M)
theorem HouseR.fr {ρ ρ' : Rho} {a : Nat} {r : Nat → Nat} {B : Nat} (e : ∀ j, j < 6 → ρ' (a + j) = ρ (a + j)) (h : HouseR ρ a r B) : HouseR ρ' a r B := by
  obtain ⟨f1, f2, f3, f4, f5, h0, ⟨h1, h2, h3, h4, h5⟩, hw⟩ := h
  exact ⟨f1, f2, f3, f4, f5, (e 0 (by omega)).trans h0, ⟨(e 1 (by omega)).trans h1, (e 2 (by omega)).trans h2, (e 3 (by omega)).trans h3, (e 4 (by omega)).trans h4, (e 5 (by omega)).trans h5⟩, hw⟩
theorem ArrR.fr {ρ ρ' : Rho} {a : Nat} {r : Nat → Nat} (e : ρ' a = ρ a) (h : ArrR ρ a r) : ArrR ρ' a r := by
  obtain ⟨f, h0, h1⟩ := h
  exact ⟨f, e.trans h0, h1⟩
theorem ShX.fr {ρ ρ' : Rho} {z : Nat} {F E : Nat → Nat → Int32} (e : ∀ j, 19 ≤ j → j < 36 → ρ' (z + j) = ρ (z + j)) (h : ShX ρ z F E) : ShX ρ' z F E := by
  obtain ⟨⟨f, h0, h1⟩, h2⟩ := h
  refine ⟨⟨f, (e 19 (by omega) (by omega)).trans h0, h1⟩, fun k hk => ?_⟩
  have e1 := e (20 + 2 * k) (by omega) (by omega)
  have e2 := e (21 + 2 * k) (by omega) (by omega)
  rw [← Nat.add_assoc] at e1 e2
  exact ⟨e1.trans (h2 k hk).1, e2.trans (h2 k hk).2⟩
theorem ShM.fr {ρ ρ' : Rho} {z : Nat} {K : Nat → Nat → Int32} {M : Nat → Int32} (e : ∀ j, 43 ≤ j → j < 49 → ρ' (z + j) = ρ (z + j)) (h : ShM ρ z K M) : ShM ρ' z K M := by
  obtain ⟨⟨h0, h1, h2, h3, h4⟩, h5⟩ := h
  exact ⟨⟨(e 43 (by omega) (by omega)).trans h0, (e 44 (by omega) (by omega)).trans h1, (e 45 (by omega) (by omega)).trans h2, (e 46 (by omega) (by omega)).trans h3, (e 47 (by omega) (by omega)).trans h4⟩, (e 48 (by omega) (by omega)).trans h5⟩
def Inv (z : Nat) (h : Nat) (n : HT) (i : HT) (d : HT) (sf : Nat → Nat → Int32) (se : Nat → Nat → Int32) (mo : Nat → Int32) (a : Nat → Nat) (b : Nat → Nat) (g : Nat → Nat) (w : Nat → Nat) (u : Nat → Int32) (t : Nat → Int32) (sk : Nat → Nat → Int32) (sm : Nat → Int32) (ρ : Rho) : Prop := XO ρ z h ∧ HouseR ρ (z + 1) n.1 n.2 ∧ HouseR ρ (z + 7) i.1 i.2 ∧ HouseR ρ (z + 13) d.1 d.2 ∧ ShX ρ z sf se ∧ MO ρ z mo ∧ ArrR ρ (z + 37) a ∧ ArrR ρ (z + 38) b ∧ ArrR ρ (z + 39) g ∧ ArrR ρ (z + 40) w ∧ ρ (z + 41) = some (iC 4 u) ∧ ρ (z + 42) = some (iC 8 t) ∧ ShM ρ z sk sm ∧ (∃ f : Nat → Int64, ρ (z + 49) = some (lC 1 f))
section RELV
variable {ρ ρ' : Rho} {z : Nat} {h : Nat} {n : HT} {i : HT} {d : HT} {sf : Nat → Nat → Int32} {se : Nat → Nat → Int32} {mo : Nat → Int32} {a : Nat → Nat} {b : Nat → Nat} {g : Nat → Nat} {w : Nat → Nat} {u : Nat → Int32} {t : Nat → Int32} {sk : Nat → Nat → Int32} {sm : Nat → Int32}
theorem Inv.X (I : Inv z h n i d sf se mo a b g w u t sk sm ρ) : XO ρ z h := I.1
theorem Inv.N (I : Inv z h n i d sf se mo a b g w u t sk sm ρ) : HouseR ρ (z + 1) n.1 n.2 := I.2.1
theorem Inv.I (I : Inv z h n i d sf se mo a b g w u t sk sm ρ) : HouseR ρ (z + 7) i.1 i.2 := I.2.2.1
theorem Inv.D (I : Inv z h n i d sf se mo a b g w u t sk sm ρ) : HouseR ρ (z + 13) d.1 d.2 := I.2.2.2.1
theorem Inv.S (I : Inv z h n i d sf se mo a b g w u t sk sm ρ) : ShX ρ z sf se := I.2.2.2.2.1
theorem Inv.O (I : Inv z h n i d sf se mo a b g w u t sk sm ρ) : MO ρ z mo := I.2.2.2.2.2.1
theorem Inv.A (I : Inv z h n i d sf se mo a b g w u t sk sm ρ) : ArrR ρ (z + 37) a := I.2.2.2.2.2.2.1
theorem Inv.B (I : Inv z h n i d sf se mo a b g w u t sk sm ρ) : ArrR ρ (z + 38) b := I.2.2.2.2.2.2.2.1
theorem Inv.G (I : Inv z h n i d sf se mo a b g w u t sk sm ρ) : ArrR ρ (z + 39) g := I.2.2.2.2.2.2.2.2.1
theorem Inv.W (I : Inv z h n i d sf se mo a b g w u t sk sm ρ) : ArrR ρ (z + 40) w := I.2.2.2.2.2.2.2.2.2.1
theorem Inv.U (I : Inv z h n i d sf se mo a b g w u t sk sm ρ) : ρ (z + 41) = some (iC 4 u) := I.2.2.2.2.2.2.2.2.2.2.1
theorem Inv.T (I : Inv z h n i d sf se mo a b g w u t sk sm ρ) : ρ (z + 42) = some (iC 8 t) := I.2.2.2.2.2.2.2.2.2.2.2.1
theorem Inv.K (I : Inv z h n i d sf se mo a b g w u t sk sm ρ) : ShM ρ z sk sm := I.2.2.2.2.2.2.2.2.2.2.2.2.1
theorem Inv.Q (I : Inv z h n i d sf se mo a b g w u t sk sm ρ) : (∃ f : Nat → Int64, ρ (z + 49) = some (lC 1 f)) := I.2.2.2.2.2.2.2.2.2.2.2.2.2
theorem Inv.uX {h' : Nat} (I : Inv z h n i d sf se mo a b g w u t sk sm ρ) (e : ∀ j, j < 50 → (j < 0 ∨ 1 ≤ j) → ρ' (z + j) = ρ (z + j)) (q : XO ρ' z h') : Inv z h' n i d sf se mo a b g w u t sk sm ρ' :=
  ⟨q,
   HouseR.fr (fun j hj => by have q := e (1 + j) (by omega) (by omega); rwa [← Nat.add_assoc] at q) I.N,
   HouseR.fr (fun j hj => by have q := e (7 + j) (by omega) (by omega); rwa [← Nat.add_assoc] at q) I.I,
   HouseR.fr (fun j hj => by have q := e (13 + j) (by omega) (by omega); rwa [← Nat.add_assoc] at q) I.D,
   ShX.fr (fun j h1 h2 => e j (by omega) (by omega)) I.S,
   ((e 36 (by omega) (by omega)).trans I.O),
   ArrR.fr (e 37 (by omega) (by omega)) I.A,
   ArrR.fr (e 38 (by omega) (by omega)) I.B,
   ArrR.fr (e 39 (by omega) (by omega)) I.G,
   ArrR.fr (e 40 (by omega) (by omega)) I.W,
   ((e 41 (by omega) (by omega)).trans I.U),
   ((e 42 (by omega) (by omega)).trans I.T),
   ShM.fr (fun j h1 h2 => e j (by omega) (by omega)) I.K,
   (let ⟨f, hf⟩ := I.Q; ⟨f, (e 49 (by omega) (by omega)).trans hf⟩)⟩
theorem Inv.uN {n' : HT} (I : Inv z h n i d sf se mo a b g w u t sk sm ρ) (e : ∀ j, j < 50 → (j < 1 ∨ 7 ≤ j) → ρ' (z + j) = ρ (z + j)) (q : HouseR ρ' (z + 1) n'.1 n'.2) : Inv z h n' i d sf se mo a b g w u t sk sm ρ' :=
  ⟨((e 0 (by omega) (by omega)).trans I.X),
   q,
   HouseR.fr (fun j hj => by have q := e (7 + j) (by omega) (by omega); rwa [← Nat.add_assoc] at q) I.I,
   HouseR.fr (fun j hj => by have q := e (13 + j) (by omega) (by omega); rwa [← Nat.add_assoc] at q) I.D,
   ShX.fr (fun j h1 h2 => e j (by omega) (by omega)) I.S,
   ((e 36 (by omega) (by omega)).trans I.O),
   ArrR.fr (e 37 (by omega) (by omega)) I.A,
   ArrR.fr (e 38 (by omega) (by omega)) I.B,
   ArrR.fr (e 39 (by omega) (by omega)) I.G,
   ArrR.fr (e 40 (by omega) (by omega)) I.W,
   ((e 41 (by omega) (by omega)).trans I.U),
   ((e 42 (by omega) (by omega)).trans I.T),
   ShM.fr (fun j h1 h2 => e j (by omega) (by omega)) I.K,
   (let ⟨f, hf⟩ := I.Q; ⟨f, (e 49 (by omega) (by omega)).trans hf⟩)⟩
theorem Inv.uI {i' : HT} (I : Inv z h n i d sf se mo a b g w u t sk sm ρ) (e : ∀ j, j < 50 → (j < 7 ∨ 13 ≤ j) → ρ' (z + j) = ρ (z + j)) (q : HouseR ρ' (z + 7) i'.1 i'.2) : Inv z h n i' d sf se mo a b g w u t sk sm ρ' :=
  ⟨((e 0 (by omega) (by omega)).trans I.X),
   HouseR.fr (fun j hj => by have q := e (1 + j) (by omega) (by omega); rwa [← Nat.add_assoc] at q) I.N,
   q,
   HouseR.fr (fun j hj => by have q := e (13 + j) (by omega) (by omega); rwa [← Nat.add_assoc] at q) I.D,
   ShX.fr (fun j h1 h2 => e j (by omega) (by omega)) I.S,
   ((e 36 (by omega) (by omega)).trans I.O),
   ArrR.fr (e 37 (by omega) (by omega)) I.A,
   ArrR.fr (e 38 (by omega) (by omega)) I.B,
   ArrR.fr (e 39 (by omega) (by omega)) I.G,
   ArrR.fr (e 40 (by omega) (by omega)) I.W,
   ((e 41 (by omega) (by omega)).trans I.U),
   ((e 42 (by omega) (by omega)).trans I.T),
   ShM.fr (fun j h1 h2 => e j (by omega) (by omega)) I.K,
   (let ⟨f, hf⟩ := I.Q; ⟨f, (e 49 (by omega) (by omega)).trans hf⟩)⟩
theorem Inv.uD {d' : HT} (I : Inv z h n i d sf se mo a b g w u t sk sm ρ) (e : ∀ j, j < 50 → (j < 13 ∨ 19 ≤ j) → ρ' (z + j) = ρ (z + j)) (q : HouseR ρ' (z + 13) d'.1 d'.2) : Inv z h n i d' sf se mo a b g w u t sk sm ρ' :=
  ⟨((e 0 (by omega) (by omega)).trans I.X),
   HouseR.fr (fun j hj => by have q := e (1 + j) (by omega) (by omega); rwa [← Nat.add_assoc] at q) I.N,
   HouseR.fr (fun j hj => by have q := e (7 + j) (by omega) (by omega); rwa [← Nat.add_assoc] at q) I.I,
   q,
   ShX.fr (fun j h1 h2 => e j (by omega) (by omega)) I.S,
   ((e 36 (by omega) (by omega)).trans I.O),
   ArrR.fr (e 37 (by omega) (by omega)) I.A,
   ArrR.fr (e 38 (by omega) (by omega)) I.B,
   ArrR.fr (e 39 (by omega) (by omega)) I.G,
   ArrR.fr (e 40 (by omega) (by omega)) I.W,
   ((e 41 (by omega) (by omega)).trans I.U),
   ((e 42 (by omega) (by omega)).trans I.T),
   ShM.fr (fun j h1 h2 => e j (by omega) (by omega)) I.K,
   (let ⟨f, hf⟩ := I.Q; ⟨f, (e 49 (by omega) (by omega)).trans hf⟩)⟩
theorem Inv.uS {sf' : Nat → Nat → Int32} {se' : Nat → Nat → Int32} (I : Inv z h n i d sf se mo a b g w u t sk sm ρ) (e : ∀ j, j < 50 → (j < 19 ∨ 36 ≤ j) → ρ' (z + j) = ρ (z + j)) (q : ShX ρ' z sf' se') : Inv z h n i d sf' se' mo a b g w u t sk sm ρ' :=
  ⟨((e 0 (by omega) (by omega)).trans I.X),
   HouseR.fr (fun j hj => by have q := e (1 + j) (by omega) (by omega); rwa [← Nat.add_assoc] at q) I.N,
   HouseR.fr (fun j hj => by have q := e (7 + j) (by omega) (by omega); rwa [← Nat.add_assoc] at q) I.I,
   HouseR.fr (fun j hj => by have q := e (13 + j) (by omega) (by omega); rwa [← Nat.add_assoc] at q) I.D,
   q,
   ((e 36 (by omega) (by omega)).trans I.O),
   ArrR.fr (e 37 (by omega) (by omega)) I.A,
   ArrR.fr (e 38 (by omega) (by omega)) I.B,
   ArrR.fr (e 39 (by omega) (by omega)) I.G,
   ArrR.fr (e 40 (by omega) (by omega)) I.W,
   ((e 41 (by omega) (by omega)).trans I.U),
   ((e 42 (by omega) (by omega)).trans I.T),
   ShM.fr (fun j h1 h2 => e j (by omega) (by omega)) I.K,
   (let ⟨f, hf⟩ := I.Q; ⟨f, (e 49 (by omega) (by omega)).trans hf⟩)⟩
theorem Inv.uO {mo' : Nat → Int32} (I : Inv z h n i d sf se mo a b g w u t sk sm ρ) (e : ∀ j, j < 50 → (j < 36 ∨ 37 ≤ j) → ρ' (z + j) = ρ (z + j)) (q : MO ρ' z mo') : Inv z h n i d sf se mo' a b g w u t sk sm ρ' :=
  ⟨((e 0 (by omega) (by omega)).trans I.X),
   HouseR.fr (fun j hj => by have q := e (1 + j) (by omega) (by omega); rwa [← Nat.add_assoc] at q) I.N,
   HouseR.fr (fun j hj => by have q := e (7 + j) (by omega) (by omega); rwa [← Nat.add_assoc] at q) I.I,
   HouseR.fr (fun j hj => by have q := e (13 + j) (by omega) (by omega); rwa [← Nat.add_assoc] at q) I.D,
   ShX.fr (fun j h1 h2 => e j (by omega) (by omega)) I.S,
   q,
   ArrR.fr (e 37 (by omega) (by omega)) I.A,
   ArrR.fr (e 38 (by omega) (by omega)) I.B,
   ArrR.fr (e 39 (by omega) (by omega)) I.G,
   ArrR.fr (e 40 (by omega) (by omega)) I.W,
   ((e 41 (by omega) (by omega)).trans I.U),
   ((e 42 (by omega) (by omega)).trans I.T),
   ShM.fr (fun j h1 h2 => e j (by omega) (by omega)) I.K,
   (let ⟨f, hf⟩ := I.Q; ⟨f, (e 49 (by omega) (by omega)).trans hf⟩)⟩
theorem Inv.uA {a' : Nat → Nat} (I : Inv z h n i d sf se mo a b g w u t sk sm ρ) (e : ∀ j, j < 50 → (j < 37 ∨ 38 ≤ j) → ρ' (z + j) = ρ (z + j)) (q : ArrR ρ' (z + 37) a') : Inv z h n i d sf se mo a' b g w u t sk sm ρ' :=
  ⟨((e 0 (by omega) (by omega)).trans I.X),
   HouseR.fr (fun j hj => by have q := e (1 + j) (by omega) (by omega); rwa [← Nat.add_assoc] at q) I.N,
   HouseR.fr (fun j hj => by have q := e (7 + j) (by omega) (by omega); rwa [← Nat.add_assoc] at q) I.I,
   HouseR.fr (fun j hj => by have q := e (13 + j) (by omega) (by omega); rwa [← Nat.add_assoc] at q) I.D,
   ShX.fr (fun j h1 h2 => e j (by omega) (by omega)) I.S,
   ((e 36 (by omega) (by omega)).trans I.O),
   q,
   ArrR.fr (e 38 (by omega) (by omega)) I.B,
   ArrR.fr (e 39 (by omega) (by omega)) I.G,
   ArrR.fr (e 40 (by omega) (by omega)) I.W,
   ((e 41 (by omega) (by omega)).trans I.U),
   ((e 42 (by omega) (by omega)).trans I.T),
   ShM.fr (fun j h1 h2 => e j (by omega) (by omega)) I.K,
   (let ⟨f, hf⟩ := I.Q; ⟨f, (e 49 (by omega) (by omega)).trans hf⟩)⟩
theorem Inv.uB {b' : Nat → Nat} (I : Inv z h n i d sf se mo a b g w u t sk sm ρ) (e : ∀ j, j < 50 → (j < 38 ∨ 39 ≤ j) → ρ' (z + j) = ρ (z + j)) (q : ArrR ρ' (z + 38) b') : Inv z h n i d sf se mo a b' g w u t sk sm ρ' :=
  ⟨((e 0 (by omega) (by omega)).trans I.X),
   HouseR.fr (fun j hj => by have q := e (1 + j) (by omega) (by omega); rwa [← Nat.add_assoc] at q) I.N,
   HouseR.fr (fun j hj => by have q := e (7 + j) (by omega) (by omega); rwa [← Nat.add_assoc] at q) I.I,
   HouseR.fr (fun j hj => by have q := e (13 + j) (by omega) (by omega); rwa [← Nat.add_assoc] at q) I.D,
   ShX.fr (fun j h1 h2 => e j (by omega) (by omega)) I.S,
   ((e 36 (by omega) (by omega)).trans I.O),
   ArrR.fr (e 37 (by omega) (by omega)) I.A,
   q,
   ArrR.fr (e 39 (by omega) (by omega)) I.G,
   ArrR.fr (e 40 (by omega) (by omega)) I.W,
   ((e 41 (by omega) (by omega)).trans I.U),
   ((e 42 (by omega) (by omega)).trans I.T),
   ShM.fr (fun j h1 h2 => e j (by omega) (by omega)) I.K,
   (let ⟨f, hf⟩ := I.Q; ⟨f, (e 49 (by omega) (by omega)).trans hf⟩)⟩
theorem Inv.uG {g' : Nat → Nat} (I : Inv z h n i d sf se mo a b g w u t sk sm ρ) (e : ∀ j, j < 50 → (j < 39 ∨ 40 ≤ j) → ρ' (z + j) = ρ (z + j)) (q : ArrR ρ' (z + 39) g') : Inv z h n i d sf se mo a b g' w u t sk sm ρ' :=
  ⟨((e 0 (by omega) (by omega)).trans I.X),
   HouseR.fr (fun j hj => by have q := e (1 + j) (by omega) (by omega); rwa [← Nat.add_assoc] at q) I.N,
   HouseR.fr (fun j hj => by have q := e (7 + j) (by omega) (by omega); rwa [← Nat.add_assoc] at q) I.I,
   HouseR.fr (fun j hj => by have q := e (13 + j) (by omega) (by omega); rwa [← Nat.add_assoc] at q) I.D,
   ShX.fr (fun j h1 h2 => e j (by omega) (by omega)) I.S,
   ((e 36 (by omega) (by omega)).trans I.O),
   ArrR.fr (e 37 (by omega) (by omega)) I.A,
   ArrR.fr (e 38 (by omega) (by omega)) I.B,
   q,
   ArrR.fr (e 40 (by omega) (by omega)) I.W,
   ((e 41 (by omega) (by omega)).trans I.U),
   ((e 42 (by omega) (by omega)).trans I.T),
   ShM.fr (fun j h1 h2 => e j (by omega) (by omega)) I.K,
   (let ⟨f, hf⟩ := I.Q; ⟨f, (e 49 (by omega) (by omega)).trans hf⟩)⟩
theorem Inv.uW {w' : Nat → Nat} (I : Inv z h n i d sf se mo a b g w u t sk sm ρ) (e : ∀ j, j < 50 → (j < 40 ∨ 41 ≤ j) → ρ' (z + j) = ρ (z + j)) (q : ArrR ρ' (z + 40) w') : Inv z h n i d sf se mo a b g w' u t sk sm ρ' :=
  ⟨((e 0 (by omega) (by omega)).trans I.X),
   HouseR.fr (fun j hj => by have q := e (1 + j) (by omega) (by omega); rwa [← Nat.add_assoc] at q) I.N,
   HouseR.fr (fun j hj => by have q := e (7 + j) (by omega) (by omega); rwa [← Nat.add_assoc] at q) I.I,
   HouseR.fr (fun j hj => by have q := e (13 + j) (by omega) (by omega); rwa [← Nat.add_assoc] at q) I.D,
   ShX.fr (fun j h1 h2 => e j (by omega) (by omega)) I.S,
   ((e 36 (by omega) (by omega)).trans I.O),
   ArrR.fr (e 37 (by omega) (by omega)) I.A,
   ArrR.fr (e 38 (by omega) (by omega)) I.B,
   ArrR.fr (e 39 (by omega) (by omega)) I.G,
   q,
   ((e 41 (by omega) (by omega)).trans I.U),
   ((e 42 (by omega) (by omega)).trans I.T),
   ShM.fr (fun j h1 h2 => e j (by omega) (by omega)) I.K,
   (let ⟨f, hf⟩ := I.Q; ⟨f, (e 49 (by omega) (by omega)).trans hf⟩)⟩
theorem Inv.uU {u' : Nat → Int32} (I : Inv z h n i d sf se mo a b g w u t sk sm ρ) (e : ∀ j, j < 50 → (j < 41 ∨ 42 ≤ j) → ρ' (z + j) = ρ (z + j)) (q : ρ' (z + 41) = some (iC 4 u')) : Inv z h n i d sf se mo a b g w u' t sk sm ρ' :=
  ⟨((e 0 (by omega) (by omega)).trans I.X),
   HouseR.fr (fun j hj => by have q := e (1 + j) (by omega) (by omega); rwa [← Nat.add_assoc] at q) I.N,
   HouseR.fr (fun j hj => by have q := e (7 + j) (by omega) (by omega); rwa [← Nat.add_assoc] at q) I.I,
   HouseR.fr (fun j hj => by have q := e (13 + j) (by omega) (by omega); rwa [← Nat.add_assoc] at q) I.D,
   ShX.fr (fun j h1 h2 => e j (by omega) (by omega)) I.S,
   ((e 36 (by omega) (by omega)).trans I.O),
   ArrR.fr (e 37 (by omega) (by omega)) I.A,
   ArrR.fr (e 38 (by omega) (by omega)) I.B,
   ArrR.fr (e 39 (by omega) (by omega)) I.G,
   ArrR.fr (e 40 (by omega) (by omega)) I.W,
   q,
   ((e 42 (by omega) (by omega)).trans I.T),
   ShM.fr (fun j h1 h2 => e j (by omega) (by omega)) I.K,
   (let ⟨f, hf⟩ := I.Q; ⟨f, (e 49 (by omega) (by omega)).trans hf⟩)⟩
theorem Inv.uT {t' : Nat → Int32} (I : Inv z h n i d sf se mo a b g w u t sk sm ρ) (e : ∀ j, j < 50 → (j < 42 ∨ 43 ≤ j) → ρ' (z + j) = ρ (z + j)) (q : ρ' (z + 42) = some (iC 8 t')) : Inv z h n i d sf se mo a b g w u t' sk sm ρ' :=
  ⟨((e 0 (by omega) (by omega)).trans I.X),
   HouseR.fr (fun j hj => by have q := e (1 + j) (by omega) (by omega); rwa [← Nat.add_assoc] at q) I.N,
   HouseR.fr (fun j hj => by have q := e (7 + j) (by omega) (by omega); rwa [← Nat.add_assoc] at q) I.I,
   HouseR.fr (fun j hj => by have q := e (13 + j) (by omega) (by omega); rwa [← Nat.add_assoc] at q) I.D,
   ShX.fr (fun j h1 h2 => e j (by omega) (by omega)) I.S,
   ((e 36 (by omega) (by omega)).trans I.O),
   ArrR.fr (e 37 (by omega) (by omega)) I.A,
   ArrR.fr (e 38 (by omega) (by omega)) I.B,
   ArrR.fr (e 39 (by omega) (by omega)) I.G,
   ArrR.fr (e 40 (by omega) (by omega)) I.W,
   ((e 41 (by omega) (by omega)).trans I.U),
   q,
   ShM.fr (fun j h1 h2 => e j (by omega) (by omega)) I.K,
   (let ⟨f, hf⟩ := I.Q; ⟨f, (e 49 (by omega) (by omega)).trans hf⟩)⟩
theorem Inv.uK {sk' : Nat → Nat → Int32} {sm' : Nat → Int32} (I : Inv z h n i d sf se mo a b g w u t sk sm ρ) (e : ∀ j, j < 50 → (j < 43 ∨ 49 ≤ j) → ρ' (z + j) = ρ (z + j)) (q : ShM ρ' z sk' sm') : Inv z h n i d sf se mo a b g w u t sk' sm' ρ' :=
  ⟨((e 0 (by omega) (by omega)).trans I.X),
   HouseR.fr (fun j hj => by have q := e (1 + j) (by omega) (by omega); rwa [← Nat.add_assoc] at q) I.N,
   HouseR.fr (fun j hj => by have q := e (7 + j) (by omega) (by omega); rwa [← Nat.add_assoc] at q) I.I,
   HouseR.fr (fun j hj => by have q := e (13 + j) (by omega) (by omega); rwa [← Nat.add_assoc] at q) I.D,
   ShX.fr (fun j h1 h2 => e j (by omega) (by omega)) I.S,
   ((e 36 (by omega) (by omega)).trans I.O),
   ArrR.fr (e 37 (by omega) (by omega)) I.A,
   ArrR.fr (e 38 (by omega) (by omega)) I.B,
   ArrR.fr (e 39 (by omega) (by omega)) I.G,
   ArrR.fr (e 40 (by omega) (by omega)) I.W,
   ((e 41 (by omega) (by omega)).trans I.U),
   ((e 42 (by omega) (by omega)).trans I.T),
   q,
   (let ⟨f, hf⟩ := I.Q; ⟨f, (e 49 (by omega) (by omega)).trans hf⟩)⟩
theorem Inv.uQ  (I : Inv z h n i d sf se mo a b g w u t sk sm ρ) (e : ∀ j, j < 50 → (j < 49 ∨ 50 ≤ j) → ρ' (z + j) = ρ (z + j)) (q : (∃ f : Nat → Int64, ρ' (z + 49) = some (lC 1 f))) : Inv z h n i d sf se mo a b g w u t sk sm ρ' :=
  ⟨((e 0 (by omega) (by omega)).trans I.X),
   HouseR.fr (fun j hj => by have q := e (1 + j) (by omega) (by omega); rwa [← Nat.add_assoc] at q) I.N,
   HouseR.fr (fun j hj => by have q := e (7 + j) (by omega) (by omega); rwa [← Nat.add_assoc] at q) I.I,
   HouseR.fr (fun j hj => by have q := e (13 + j) (by omega) (by omega); rwa [← Nat.add_assoc] at q) I.D,
   ShX.fr (fun j h1 h2 => e j (by omega) (by omega)) I.S,
   ((e 36 (by omega) (by omega)).trans I.O),
   ArrR.fr (e 37 (by omega) (by omega)) I.A,
   ArrR.fr (e 38 (by omega) (by omega)) I.B,
   ArrR.fr (e 39 (by omega) (by omega)) I.G,
   ArrR.fr (e 40 (by omega) (by omega)) I.W,
   ((e 41 (by omega) (by omega)).trans I.U),
   ((e 42 (by omega) (by omega)).trans I.T),
   ShM.fr (fun j h1 h2 => e j (by omega) (by omega)) I.K,
   q⟩
end RELV
def ShOK (F E : Nat → Nat → Int32) (K : Nat → Nat → Int32) (M : Nat → Int32) : Prop := ∀ e, e < 8 →
  (F e 0 = nI 0 ∧ K 0 e = nI 0) ∨
  (F e 0 = nI 1 ∧ K 0 e = nI 1 ∧ ∃ k f : Nat, (k < 8 ∧ f < 10) ∧ F e 1 = nI k ∧ F e 2 = nI f ∧ K 1 e = nI k ∧ K 2 e = nI f) ∨
  (F e 0 = nI 2 ∧ K 0 e = nI 2 ∧ ∃ so len : Nat, (so ≤ 2 ∧ len ≤ 100) ∧ F e 3 = nI so ∧ F e 4 = nI len ∧ K 3 e = nI so ∧ K 4 e = nI len ∧ (∀ j, j < 100 → E e j = M (100 * e + j)) ∧ (so = 0 → ∀ j, j < 100 → -128 ≤ (E e j).toInt ∧ (E e j).toInt ≤ 127))
def GoodR (h : Nat) (n i : HT) (mo : Nat → Int32) (a g : Nat → Nat) : Prop := (h ≤ 1 ∧ mo 0 = nI h) ∧ (a = n.1 ∧ OKr n.1 ∧ BitsR n.1 n.2) ∧ (h = 1 → g = i.1 ∧ OKr i.1 ∧ BitsR i.1 i.2)
def Rel (ρ : Rho) (x q o : Nat) : Prop := ∃ (z : Nat) (h : Nat) (n : HT) (i : HT) (d : HT) (sf : Nat → Nat → Int32) (se : Nat → Nat → Int32) (mo : Nat → Int32) (a : Nat → Nat) (b : Nat → Nat) (g : Nat → Nat) (w : Nat → Nat) (u : Nat → Int32) (t : Nat → Int32) (sk : Nat → Nat → Int32) (sm : Nat → Int32), (x = z ∧ q = z + 36 ∧ o = z + 49) ∧ Inv z h n i d sf se mo a b g w u t sk sm ρ ∧ GoodR h n i mo a g ∧ ShOK sf se sk sm
