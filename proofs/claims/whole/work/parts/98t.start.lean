/-! PURE: what both sides stand on at first. -/
theorem al {ρ : Rho} {a z ci k : Nat} {fs : List Value} {v : Value} {c : AC} (h : ρ a = some (oC ci fs)) (ne : a ≠ z) (hk : k < fs.length) : ∃ ρ', ptV (rset ρ z c) ci a k v = some ρ' ∧ ρ' a = some (oC ci (fs.set k v)) ∧ ρ' z = some c ∧ ∀ y, y ≠ a → y ≠ z → ρ' y = ρ y := by
  refine ⟨_, ptV_at ((rset_n ne).trans h) hk, rset_s, (rset_n (fun e => ne e.symm)).trans rset_s, fun y h1 h2 => (rset_n h1).trans (rset_n h2)⟩
theorem p1 {ρ : Rho} {a ci k : Nat} {fs : List Value} {v : Value} (h : ρ a = some (oC ci fs)) (hk : k < fs.length) : ∃ ρ', ptV ρ ci a k v = some ρ' ∧ ρ' a = some (oC ci (fs.set k v)) ∧ ∀ y, y ≠ a → ρ' y = ρ y :=
  ⟨_, ptV_at h hk, rset_s, fun y h1 => rset_n h1⟩
def r00 : Nat → Nat := fun j => if j = 1 then 12 else if j = 4 then 1 else 0
def r0z : Nat → Nat := fun _ => 0

theorem x_init0 (ρ : Rho) (z : Nat) : ∃ ρ', fX0_init (rset ρ z (oC 0 [.null, .null, .null, .null, .null, .int 0, .int 0, .int 0, .int 0, .int 0, .int 0])) (z + 1) z = some (ρ', z + 6) ∧ Fr ρ ρ' z 6 ∧ HouseR ρ' z r00 0 := by
  have h0 : (rset ρ z (oC 0 [.null, .null, .null, .null, .null, .int 0, .int 0, .int 0, .int 0, .int 0, .int 0])) z = some (oC 0 [.null, .null, .null, .null, .null, .int 0, .int 0, .int 0, .int 0, .int 0, .int 0]) := rset_s
  have g0 : ∀ y, y ≠ z → (rset ρ z (oC 0 [.null, .null, .null, .null, .null, .int 0, .int 0, .int 0, .int 0, .int 0, .int 0])) y = ρ y := fun y hy => rset_n hy
  generalize rset ρ z (oC 0 [.null, .null, .null, .null, .null, .int 0, .int 0, .int 0, .int 0, .int 0, .int 0]) = ρ0 at h0 g0 ⊢
  obtain ⟨ρ1, e1, h1, c1, g1⟩ := al (z := z + 1) (c := iC 8 (fun _ => 0)) (v := .ref (z + 1)) (k := 0) h0 (by omega) (Nat.le_of_ble_eq_true rfl)
  obtain ⟨ρ2, e2, h2, c2, g2⟩ := al (z := z + 1 + 1) (c := iC 8 (fun _ => 0)) (v := .ref (z + 1 + 1)) (k := 1) h1 (by omega) (Nat.le_of_ble_eq_true rfl)
  obtain ⟨ρ3, e3, h3, c3, g3⟩ := al (z := z + 1 + 1 + 1) (c := iC 8 (fun _ => 0)) (v := .ref (z + 1 + 1 + 1)) (k := 2) h2 (by omega) (Nat.le_of_ble_eq_true rfl)
  obtain ⟨ρ4, e4, h4, c4, g4⟩ := al (z := z + 1 + 1 + 1 + 1) (c := iC 8 (fun _ => 0)) (v := .ref (z + 1 + 1 + 1 + 1)) (k := 3) h3 (by omega) (Nat.le_of_ble_eq_true rfl)
  obtain ⟨ρ5, e5, h5, c5, g5⟩ := al (z := z + 1 + 1 + 1 + 1 + 1) (c := iC 4 (fun _ => 0)) (v := .ref (z + 1 + 1 + 1 + 1 + 1)) (k := 4) h4 (by omega) (Nat.le_of_ble_eq_true rfl)
  obtain ⟨ρ6, e6, h6, g6⟩ := p1 (v := .int 0) (k := 5) h5 (Nat.le_of_ble_eq_true rfl)
  obtain ⟨ρ7, e7, h7, g7⟩ := p1 (v := .int 0) (k := 6) h6 (Nat.le_of_ble_eq_true rfl)
  obtain ⟨ρ8, e8, h8, g8⟩ := p1 (v := .int 12) (k := 7) h7 (Nat.le_of_ble_eq_true rfl)
  obtain ⟨ρ9, e9, h9, g9⟩ := p1 (v := .int 0) (k := 8) h8 (Nat.le_of_ble_eq_true rfl)
  obtain ⟨ρ10, e10, h10, g10⟩ := p1 (v := .int 0) (k := 9) h9 (Nat.le_of_ble_eq_true rfl)
  obtain ⟨ρ11, e11, h11, g11⟩ := p1 (v := .int 1) (k := 10) h10 (Nat.le_of_ble_eq_true rfl)
  unfold fX0_init
  rw [Option.bind_some, e1, Option.bind_some, Option.bind_some, e2, Option.bind_some, Option.bind_some, e3, Option.bind_some, Option.bind_some, e4, Option.bind_some, Option.bind_some, e5, Option.bind_some, e6, Option.bind_some, e7, Option.bind_some, e8, Option.bind_some, e9, Option.bind_some, e10, Option.bind_some, e11, Option.bind_some]
  refine ⟨ρ11, rfl, fun y hy => ((g11 _ (by omega)).trans ((g10 _ (by omega)).trans ((g9 _ (by omega)).trans ((g8 _ (by omega)).trans ((g7 _ (by omega)).trans ((g6 _ (by omega)).trans ((g5 _ (by omega) (by omega)).trans ((g4 _ (by omega) (by omega)).trans ((g3 _ (by omega) (by omega)).trans ((g2 _ (by omega) (by omega)).trans ((g1 _ (by omega) (by omega)).trans (g0 _ (by omega))))))))))))), (fun _ => 0), (fun _ => 0), (fun _ => 0), (fun _ => 0), (fun _ => 0), h11, ⟨((g11 _ (by omega)).trans ((g10 _ (by omega)).trans ((g9 _ (by omega)).trans ((g8 _ (by omega)).trans ((g7 _ (by omega)).trans ((g6 _ (by omega)).trans ((g5 _ (by omega) (by omega)).trans ((g4 _ (by omega) (by omega)).trans ((g3 _ (by omega) (by omega)).trans ((g2 _ (by omega) (by omega)).trans c1)))))))))), ((g11 _ (by omega)).trans ((g10 _ (by omega)).trans ((g9 _ (by omega)).trans ((g8 _ (by omega)).trans ((g7 _ (by omega)).trans ((g6 _ (by omega)).trans ((g5 _ (by omega) (by omega)).trans ((g4 _ (by omega) (by omega)).trans ((g3 _ (by omega) (by omega)).trans c2))))))))), ((g11 _ (by omega)).trans ((g10 _ (by omega)).trans ((g9 _ (by omega)).trans ((g8 _ (by omega)).trans ((g7 _ (by omega)).trans ((g6 _ (by omega)).trans ((g5 _ (by omega) (by omega)).trans ((g4 _ (by omega) (by omega)).trans c3)))))))), ((g11 _ (by omega)).trans ((g10 _ (by omega)).trans ((g9 _ (by omega)).trans ((g8 _ (by omega)).trans ((g7 _ (by omega)).trans ((g6 _ (by omega)).trans ((g5 _ (by omega) (by omega)).trans c4))))))), ((g11 _ (by omega)).trans ((g10 _ (by omega)).trans ((g9 _ (by omega)).trans ((g8 _ (by omega)).trans ((g7 _ (by omega)).trans ((g6 _ (by omega)).trans c5))))))⟩, fun w hw => absurd hw (by decide +revert), fun i hi => ?_⟩
  show (0 : Int32) = nI (r00 (5 + i))
  unfold r00
  rw [if_neg (by omega), if_neg (by omega)]
  rfl
theorem x_init6 (ρ : Rho) (a : Nat) : ∃ ρ', fX6_init (rset ρ a (oC 1 [.int 0, .int 0, .int 0, .int 0, .int 0, .null])) (a + 1) a = some (ρ', a + 2) ∧ Fr ρ ρ' a 2 ∧ ρ' a = some (oC 1 [.int 0, .int 0, .int 0, .int 0, .int 0, .ref (a + 1)]) ∧ ρ' (a + 1) = some (iC 100 (fun _ => 0)) := by
  have h0 : (rset ρ a (oC 1 [.int 0, .int 0, .int 0, .int 0, .int 0, .null])) a = some (oC 1 [.int 0, .int 0, .int 0, .int 0, .int 0, .null]) := rset_s
  have g0 : ∀ y, y ≠ a → (rset ρ a (oC 1 [.int 0, .int 0, .int 0, .int 0, .int 0, .null])) y = ρ y := fun y hy => rset_n hy
  generalize rset ρ a (oC 1 [.int 0, .int 0, .int 0, .int 0, .int 0, .null]) = ρ0 at h0 g0 ⊢
  obtain ⟨ρ1, e1, h1, g1⟩ := p1 (v := .int 0) (k := 0) h0 (Nat.le_of_ble_eq_true rfl)
  obtain ⟨ρ2, e2, h2, g2⟩ := p1 (v := .int 0) (k := 1) h1 (Nat.le_of_ble_eq_true rfl)
  obtain ⟨ρ3, e3, h3, g3⟩ := p1 (v := .int 0) (k := 2) h2 (Nat.le_of_ble_eq_true rfl)
  obtain ⟨ρ4, e4, h4, g4⟩ := p1 (v := .int 0) (k := 3) h3 (Nat.le_of_ble_eq_true rfl)
  obtain ⟨ρ5, e5, h5, g5⟩ := p1 (v := .int 0) (k := 4) h4 (Nat.le_of_ble_eq_true rfl)
  obtain ⟨ρ6, e6, h6, c6, g6⟩ := al (z := a + 1) (c := iC 100 (fun _ => 0)) (v := .ref (a + 1)) (k := 5) h5 (by omega) (Nat.le_of_ble_eq_true rfl)
  unfold fX6_init
  rw [e1, Option.bind_some, e2, Option.bind_some, e3, Option.bind_some, e4, Option.bind_some, e5, Option.bind_some, Option.bind_some, e6, Option.bind_some]
  refine ⟨ρ6, rfl, fun y hy => ((g6 _ (by omega) (by omega)).trans ((g5 _ (by omega)).trans ((g4 _ (by omega)).trans ((g3 _ (by omega)).trans ((g2 _ (by omega)).trans ((g1 _ (by omega)).trans (g0 _ (by omega)))))))), h6, c6⟩
def SI (ρ : Rho) (z i : Nat) : Prop := (∃ f : Nat → Option Nat, ρ (z + 19) = some (rC 8 f) ∧ ∀ e, e < i → f e = some (z + 20 + 2 * e)) ∧ ∀ e, e < i → ρ (z + 20 + 2 * e) = some (oC 1 [.int 0, .int 0, .int 0, .int 0, .int 0, .ref (z + 21 + 2 * e)]) ∧ ρ (z + 21 + 2 * e) = some (iC 100 (fun _ => 0))
theorem x_shelf (ρ : Rho) (z i : Nat) (hi : i < 8) (S : SI ρ z i) : ∃ ρm ρ', fX6_init (rset ρ (z + 20 + 2 * i) (oC 1 [.int 0, .int 0, .int 0, .int 0, .int 0, .null])) (z + 20 + 2 * i + 1) (z + 20 + 2 * i) = some (ρm, z + 20 + 2 * i + 2) ∧ stR ρm (z + 19) (nI i) (z + 20 + 2 * i) = some ρ' ∧ SI ρ' z (i + 1) ∧ ∀ y, (y < z + 19 ∨ z + 22 + 2 * i ≤ y) → ρ' y = ρ y := by
  obtain ⟨⟨f, s1, s2⟩, s3⟩ := S
  obtain ⟨ρm, e1, e2, e3, e4⟩ := x_init6 ρ (z + 20 + 2 * i)
  have s1m : ρm (z + 19) = some (rC 8 f) := (e2 _ (by omega)).trans s1
  refine ⟨ρm, rset ρm (z + 19) (rC 8 (va_up f i (some (z + 20 + 2 * i)))), e1, ?_, ⟨⟨_, rset_s, fun e he => ?_⟩, fun e he => ?_⟩, fun y hy => (rset_n (by omega)).trans (e2 _ (by omega))⟩
  · unfold stR
    rw [s1m]
    show (if inb (nI i) 8 then (obF ρm 1 (z + 20 + 2 * i)).bind fun _ => some (rset ρm (z + 19) (rC 8 (va_up f (nI i).toNatClampNeg (some (z + 20 + 2 * i))))) else none) = _
    rw [inb_nI hi (by omega), nI_clamp (by omega), obF_at e3, Option.bind_some]
    rfl
  · show (if e = i then some (z + 20 + 2 * i) else f e) = _
    by_cases c : e = i
    · rw [if_pos c, c]
    · rw [if_neg c]; exact s2 e (by omega)
  · by_cases c : e = i
    · subst c
      rw [show z + 21 + 2 * e = z + 20 + 2 * e + 1 by omega]
      exact ⟨(rset_n (by omega)).trans e3, (rset_n (by omega)).trans e4⟩
    · obtain ⟨t1, t2⟩ := s3 e (by omega)
      exact ⟨(rset_n (by omega)).trans ((e2 _ (by omega)).trans t1), (rset_n (by omega)).trans ((e2 _ (by omega)).trans t2)⟩

theorem x_init9 (ρ : Rho) (z : Nat) : ∃ ρ', fX9_init (rset ρ z (oC 2 [.null, .null, .null, .null, .int 0])) (z + 1) z = some (ρ', z + 36) ∧ (∀ y, y < z ∨ z + 36 ≤ y → ρ' y = ρ y) ∧ XO ρ' z 0 ∧ HouseR ρ' (z + 1) r00 0 ∧ HouseR ρ' (z + 7) r00 0 ∧ HouseR ρ' (z + 13) r00 0 ∧ SI ρ' z 8 := by
  have h0 : (rset ρ z (oC 2 [.null, .null, .null, .null, .int 0])) z = some (oC 2 [.null, .null, .null, .null, .int 0]) := rset_s
  have g0 : ∀ y, y ≠ z → (rset ρ z (oC 2 [.null, .null, .null, .null, .int 0])) y = ρ y := fun y hy => rset_n hy
  generalize rset ρ z (oC 2 [.null, .null, .null, .null, .int 0]) = ρ0 at h0 g0 ⊢
  obtain ⟨τ0, i0, f0, H0⟩ := x_init0 ρ0 (z + 1)
  obtain ⟨ρ1, e1, h1, g1⟩ := p1 (v := .ref (z + 1)) (k := 0) ((f0 _ (by omega)).trans h0) (Nat.le_of_ble_eq_true rfl)
  obtain ⟨τ1, i1, f1, H1⟩ := x_init0 ρ1 (z + 7)
  obtain ⟨ρ2, e2, h2, g2⟩ := p1 (v := .ref (z + 7)) (k := 1) ((f1 _ (by omega)).trans h1) (Nat.le_of_ble_eq_true rfl)
  obtain ⟨τ2, i2, f2, H2⟩ := x_init0 ρ2 (z + 13)
  obtain ⟨ρ3, e3, h3, g3⟩ := p1 (v := .ref (z + 13)) (k := 2) ((f2 _ (by omega)).trans h2) (Nat.le_of_ble_eq_true rfl)
  obtain ⟨ρ4, e4, h4, g4⟩ := p1 (v := .int 0) (k := 4) h3 (Nat.le_of_ble_eq_true rfl)
  obtain ⟨ρ5, e5, h5, c5, g5⟩ := al (z := z + 19) (c := rC 8 (fun _ => none)) (v := .ref (z + 19)) (k := 3) h4 (by omega) (Nat.le_of_ble_eq_true rfl)
  have S0 : SI ρ5 z 0 := ⟨⟨_, c5, fun e he => by omega⟩, fun e he => by omega⟩
  have b0 : ∀ y, y ≠ z → y < z + 19 → ρ5 y = ρ4 y := fun y h1 h2 => g5 y h1 (by omega)
  obtain ⟨μ0, ν0, j0, l0, S1, b1⟩ := x_shelf ρ5 z 0 (by omega) S0
  have h6 : ν0 z = _ := (b1 _ (by omega)).trans h5
  have r0 : gR ρ5 2 z 3 = some (z + 19) := gR_at h5 rfl
  obtain ⟨μ1, ν1, j1, l1, S2, b2⟩ := x_shelf ν0 z 1 (by omega) S1
  have h7 : ν1 z = _ := (b2 _ (by omega)).trans h6
  have r1 : gR ν0 2 z 3 = some (z + 19) := gR_at h6 rfl
  obtain ⟨μ2, ν2, j2, l2, S3, b3⟩ := x_shelf ν1 z 2 (by omega) S2
  have h8 : ν2 z = _ := (b3 _ (by omega)).trans h7
  have r2 : gR ν1 2 z 3 = some (z + 19) := gR_at h7 rfl
  obtain ⟨μ3, ν3, j3, l3, S4, b4⟩ := x_shelf ν2 z 3 (by omega) S3
  have h9 : ν3 z = _ := (b4 _ (by omega)).trans h8
  have r3 : gR ν2 2 z 3 = some (z + 19) := gR_at h8 rfl
  obtain ⟨μ4, ν4, j4, l4, S5, b5⟩ := x_shelf ν3 z 4 (by omega) S4
  have h10 : ν4 z = _ := (b5 _ (by omega)).trans h9
  have r4 : gR ν3 2 z 3 = some (z + 19) := gR_at h9 rfl
  obtain ⟨μ5, ν5, j5, l5, S6, b6⟩ := x_shelf ν4 z 5 (by omega) S5
  have h11 : ν5 z = _ := (b6 _ (by omega)).trans h10
  have r5 : gR ν4 2 z 3 = some (z + 19) := gR_at h10 rfl
  obtain ⟨μ6, ν6, j6, l6, S7, b7⟩ := x_shelf ν5 z 6 (by omega) S6
  have h12 : ν6 z = _ := (b7 _ (by omega)).trans h11
  have r6 : gR ν5 2 z 3 = some (z + 19) := gR_at h11 rfl
  obtain ⟨μ7, ν7, j7, l7, S8, b8⟩ := x_shelf ν6 z 7 (by omega) S7
  have h13 : ν7 z = _ := (b8 _ (by omega)).trans h12
  have r7 : gR ν6 2 z 3 = some (z + 19) := gR_at h12 rfl
  have fin : ∀ y, y ≠ z → y < z + 19 → ν7 y = ρ4 y := fun y h1 h2 => ((b8 y (by omega)).trans ((b7 y (by omega)).trans ((b6 y (by omega)).trans ((b5 y (by omega)).trans ((b4 y (by omega)).trans ((b3 y (by omega)).trans ((b2 y (by omega)).trans ((b1 y (by omega)).trans (b0 y h1 h2)))))))))
  refine ⟨ν7, ?_, fun y hy => ?_, h13, ?_, ?_, ?_, S8⟩
  · unfold fX9_init
    rw [Option.bind_some, i0, Option.bind_some, e1, Option.bind_some, Option.bind_some, i1, Option.bind_some, e2, Option.bind_some, Option.bind_some, i2, Option.bind_some, e3, Option.bind_some, e4, Option.bind_some, Option.bind_some, e5, Option.bind_some]
    rw [r0, Option.bind_some, Option.bind_some]
    rw [show fX6_init _ _ _ = some (μ0, z + 20 + 2 * 0 + 2) from j0, Option.bind_some]
    rw [show stR _ _ (0 : Int32) _ = some ν0 from l0, Option.bind_some]
    rw [r1, Option.bind_some, Option.bind_some]
    rw [show fX6_init _ _ _ = some (μ1, z + 20 + 2 * 1 + 2) from j1, Option.bind_some]
    rw [show stR _ _ (1 : Int32) _ = some ν1 from l1, Option.bind_some]
    rw [r2, Option.bind_some, Option.bind_some]
    rw [show fX6_init _ _ _ = some (μ2, z + 20 + 2 * 2 + 2) from j2, Option.bind_some]
    rw [show stR _ _ (2 : Int32) _ = some ν2 from l2, Option.bind_some]
    rw [r3, Option.bind_some, Option.bind_some]
    rw [show fX6_init _ _ _ = some (μ3, z + 20 + 2 * 3 + 2) from j3, Option.bind_some]
    rw [show stR _ _ (3 : Int32) _ = some ν3 from l3, Option.bind_some]
    rw [r4, Option.bind_some, Option.bind_some]
    rw [show fX6_init _ _ _ = some (μ4, z + 20 + 2 * 4 + 2) from j4, Option.bind_some]
    rw [show stR _ _ (4 : Int32) _ = some ν4 from l4, Option.bind_some]
    rw [r5, Option.bind_some, Option.bind_some]
    rw [show fX6_init _ _ _ = some (μ5, z + 20 + 2 * 5 + 2) from j5, Option.bind_some]
    rw [show stR _ _ (5 : Int32) _ = some ν5 from l5, Option.bind_some]
    rw [r6, Option.bind_some, Option.bind_some]
    rw [show fX6_init _ _ _ = some (μ6, z + 20 + 2 * 6 + 2) from j6, Option.bind_some]
    rw [show stR _ _ (6 : Int32) _ = some ν6 from l6, Option.bind_some]
    rw [r7, Option.bind_some, Option.bind_some]
    rw [show fX6_init _ _ _ = some (μ7, z + 20 + 2 * 7 + 2) from j7, Option.bind_some]
    rw [show stR _ _ (7 : Int32) _ = some ν7 from l7, Option.bind_some]
  · have q1 : ν7 y = ρ5 y := ((b8 y (by omega)).trans ((b7 y (by omega)).trans ((b6 y (by omega)).trans ((b5 y (by omega)).trans ((b4 y (by omega)).trans ((b3 y (by omega)).trans ((b2 y (by omega)).trans (b1 y (by omega)))))))))
    exact q1.trans ((g5 y (by omega) (by omega)).trans ((g4 y (by omega)).trans ((g3 y (by omega)).trans ((f2 y (by omega)).trans ((g2 y (by omega)).trans ((f1 y (by omega)).trans ((g1 y (by omega)).trans ((f0 y (by omega)).trans (g0 y (by omega))))))))))
  · exact HouseR.fr (fun j hj => (fin _ (by omega) (by omega)).trans ((g4 _ (by omega)).trans ((g3 _ (by omega)).trans ((f2 _ (by omega)).trans ((g2 _ (by omega)).trans ((f1 _ (by omega)).trans (g1 _ (by omega)))))))) H0
  · exact HouseR.fr (fun j hj => (fin _ (by omega) (by omega)).trans ((g4 _ (by omega)).trans ((g3 _ (by omega)).trans ((f2 _ (by omega)).trans (g2 _ (by omega)))))) H1
  · exact HouseR.fr (fun j hj => (fin _ (by omega) (by omega)).trans ((g4 _ (by omega)).trans (g3 _ (by omega)))) H2
theorem m_init (ρ : Rho) (z : Nat) : ∃ ρ', fX10_init (rset ρ (z + 36) (oC 3 [.null, .null, .null, .null, .int 0, .int 0, .int 0, .int 0, .null, .null, .int 0, .int 0, .null, .null, .null, .null, .null, .null, .int 0])) (z + 36 + 1) (z + 36) = some (ρ', z + 49) ∧ (∀ y, y < z + 36 ∨ z + 49 ≤ y → ρ' y = ρ y) ∧ MO ρ' z (fun _ => 0) ∧ ArrR ρ' (z + 37) r00 ∧ ArrR ρ' (z + 38) r0z ∧ ArrR ρ' (z + 39) r0z ∧ ArrR ρ' (z + 40) r0z ∧ ρ' (z + 41) = some (iC 4 (fun _ => 0)) ∧ ρ' (z + 42) = some (iC 8 (fun _ => 0)) ∧ ShM ρ' z (fun _ _ => 0) (fun _ => 0) := by
  have h0 : (rset ρ (z + 36) (oC 3 [.null, .null, .null, .null, .int 0, .int 0, .int 0, .int 0, .null, .null, .int 0, .int 0, .null, .null, .null, .null, .null, .null, .int 0])) (z + 36) = some (oC 3 [.null, .null, .null, .null, .int 0, .int 0, .int 0, .int 0, .null, .null, .int 0, .int 0, .null, .null, .null, .null, .null, .null, .int 0]) := rset_s
  have g0 : ∀ y, y ≠ z + 36 → (rset ρ (z + 36) (oC 3 [.null, .null, .null, .null, .int 0, .int 0, .int 0, .int 0, .null, .null, .int 0, .int 0, .null, .null, .null, .null, .null, .null, .int 0])) y = ρ y := fun y hy => rset_n hy
  generalize rset ρ (z + 36) (oC 3 [.null, .null, .null, .null, .int 0, .int 0, .int 0, .int 0, .null, .null, .int 0, .int 0, .null, .null, .null, .null, .null, .null, .int 0]) = ρ0 at h0 g0 ⊢
  obtain ⟨ρ1, e1, h1, c1, g1⟩ := al (z := z + 37) (c := iC 49 (fun _ => 0)) (v := .ref (z + 37)) (k := 0) h0 (by omega) (Nat.le_of_ble_eq_true rfl)
  obtain ⟨ρ2, e2, h2, c2, g2⟩ := al (z := z + 38) (c := iC 49 (fun _ => 0)) (v := .ref (z + 38)) (k := 1) h1 (by omega) (Nat.le_of_ble_eq_true rfl)
  obtain ⟨ρ3, e3, h3, c3, g3⟩ := al (z := z + 39) (c := iC 49 (fun _ => 0)) (v := .ref (z + 39)) (k := 2) h2 (by omega) (Nat.le_of_ble_eq_true rfl)
  obtain ⟨ρ4, e4, h4, c4, g4⟩ := al (z := z + 40) (c := iC 49 (fun _ => 0)) (v := .ref (z + 40)) (k := 3) h3 (by omega) (Nat.le_of_ble_eq_true rfl)
  obtain ⟨ρ5, e5, h5, c5, g5⟩ := al (z := z + 41) (c := iC 4 (fun _ => 0)) (v := .ref (z + 41)) (k := 8) h4 (by omega) (Nat.le_of_ble_eq_true rfl)
  obtain ⟨ρ6, e6, h6, c6, g6⟩ := al (z := z + 42) (c := iC 8 (fun _ => 0)) (v := .ref (z + 42)) (k := 9) h5 (by omega) (Nat.le_of_ble_eq_true rfl)
  obtain ⟨ρ7, e7, h7, c7, g7⟩ := al (z := z + 43) (c := iC 8 (fun _ => 0)) (v := .ref (z + 43)) (k := 12) h6 (by omega) (Nat.le_of_ble_eq_true rfl)
  obtain ⟨ρ8, e8, h8, c8, g8⟩ := al (z := z + 44) (c := iC 8 (fun _ => 0)) (v := .ref (z + 44)) (k := 13) h7 (by omega) (Nat.le_of_ble_eq_true rfl)
  obtain ⟨ρ9, e9, h9, c9, g9⟩ := al (z := z + 45) (c := iC 8 (fun _ => 0)) (v := .ref (z + 45)) (k := 14) h8 (by omega) (Nat.le_of_ble_eq_true rfl)
  obtain ⟨ρ10, e10, h10, c10, g10⟩ := al (z := z + 46) (c := iC 8 (fun _ => 0)) (v := .ref (z + 46)) (k := 15) h9 (by omega) (Nat.le_of_ble_eq_true rfl)
  obtain ⟨ρ11, e11, h11, c11, g11⟩ := al (z := z + 47) (c := iC 8 (fun _ => 0)) (v := .ref (z + 47)) (k := 16) h10 (by omega) (Nat.le_of_ble_eq_true rfl)
  obtain ⟨ρ12, e12, h12, c12, g12⟩ := al (z := z + 48) (c := iC 800 (fun _ => 0)) (v := .ref (z + 48)) (k := 17) h11 (by omega) (Nat.le_of_ble_eq_true rfl)
  have z37 : ρ12 (z + 37) = some (iC 49 (fun _ => 0)) := ((g12 _ (by omega) (by omega)).trans ((g11 _ (by omega) (by omega)).trans ((g10 _ (by omega) (by omega)).trans ((g9 _ (by omega) (by omega)).trans ((g8 _ (by omega) (by omega)).trans ((g7 _ (by omega) (by omega)).trans ((g6 _ (by omega) (by omega)).trans ((g5 _ (by omega) (by omega)).trans ((g4 _ (by omega) (by omega)).trans ((g3 _ (by omega) (by omega)).trans ((g2 _ (by omega) (by omega)).trans c1)))))))))))
  have q1 : gR ρ12 3 (z + 36) 0 = some (z + 37) := gR_at h12 rfl
  have s1 := stI_at (w := 1) (v := 12) z37 (by omega) (by omega)
  have h13 : (rset ρ12 (z + 37) (iC 49 (upd (fun _ => 0) 1 12))) (z + 36) = _ := (rset_n (by omega)).trans h12
  have z37b : (rset ρ12 (z + 37) (iC 49 (upd (fun _ => 0) 1 12))) (z + 37) = _ := rset_s
  have g13 : ∀ y, y ≠ z + 37 → (rset ρ12 (z + 37) (iC 49 (upd (fun _ => 0) 1 12))) y = ρ12 y := fun y hy => rset_n hy
  generalize rset ρ12 (z + 37) (iC 49 (upd (fun _ => 0) 1 12)) = ρ13 at s1 h13 z37b g13
  have q2 : gR ρ13 3 (z + 36) 0 = some (z + 37) := gR_at h13 rfl
  have s2 := stI_at (w := 4) (v := 1) z37b (by omega) (by omega)
  have h14 : (rset ρ13 (z + 37) (iC 49 (upd (upd (fun _ => 0) 1 12) 4 1))) (z + 36) = _ := (rset_n (by omega)).trans h13
  have z37c : (rset ρ13 (z + 37) (iC 49 (upd (upd (fun _ => 0) 1 12) 4 1))) (z + 37) = _ := rset_s
  have g14 : ∀ y, y ≠ z + 37 → (rset ρ13 (z + 37) (iC 49 (upd (upd (fun _ => 0) 1 12) 4 1))) y = ρ13 y := fun y hy => rset_n hy
  generalize rset ρ13 (z + 37) (iC 49 (upd (upd (fun _ => 0) 1 12) 4 1)) = ρ14 at s2 h14 z37c g14
  refine ⟨ρ14, ?_, fun y hy => ?_, h14, ⟨_, z37c, fun j hj => ?_, fun w hw => absurd hw (by decide +revert)⟩, ?_, ?_, ?_, ?_, ?_, ⟨?_, ?_, ?_, ?_, ?_⟩, ?_⟩
  · unfold fX10_init
    rw [Option.bind_some, show ptV _ _ _ _ _ = some ρ1 from e1, Option.bind_some, Option.bind_some, show ptV _ _ _ _ _ = some ρ2 from e2, Option.bind_some, Option.bind_some, show ptV _ _ _ _ _ = some ρ3 from e3, Option.bind_some, Option.bind_some, show ptV _ _ _ _ _ = some ρ4 from e4, Option.bind_some, Option.bind_some, show ptV _ _ _ _ _ = some ρ5 from e5, Option.bind_some, Option.bind_some, show ptV _ _ _ _ _ = some ρ6 from e6, Option.bind_some, Option.bind_some, show ptV _ _ _ _ _ = some ρ7 from e7, Option.bind_some, Option.bind_some, show ptV _ _ _ _ _ = some ρ8 from e8, Option.bind_some, Option.bind_some, show ptV _ _ _ _ _ = some ρ9 from e9, Option.bind_some, Option.bind_some, show ptV _ _ _ _ _ = some ρ10 from e10, Option.bind_some, Option.bind_some, show ptV _ _ _ _ _ = some ρ11 from e11, Option.bind_some, Option.bind_some, show ptV _ _ _ _ _ = some ρ12 from e12, Option.bind_some]
    rw [q1, Option.bind_some, show stI _ _ (1 : Int32) _ = some ρ13 from s1, Option.bind_some, q2, Option.bind_some, show stI _ _ (4 : Int32) _ = _ from s2, Option.bind_some]
  · exact (g14 _ (by omega)).trans ((g13 y (by omega)).trans ((g12 _ (by omega) (by omega)).trans ((g11 _ (by omega) (by omega)).trans ((g10 _ (by omega) (by omega)).trans ((g9 _ (by omega) (by omega)).trans ((g8 _ (by omega) (by omega)).trans ((g7 _ (by omega) (by omega)).trans ((g6 _ (by omega) (by omega)).trans ((g5 _ (by omega) (by omega)).trans ((g4 _ (by omega) (by omega)).trans ((g3 _ (by omega) (by omega)).trans ((g2 _ (by omega) (by omega)).trans ((g1 _ (by omega) (by omega)).trans (g0 y (by omega)))))))))))))))
  · show upd (upd (fun _ => 0) 1 12) 4 1 j = nI (r00 j)
    unfold r00
    rw [upd_if, upd_if]
    by_cases c4 : j = 4
    · rw [if_pos c4, if_neg (by omega), if_pos c4]; rfl
    · rw [if_neg c4]
      by_cases c1 : j = 1
      · rw [if_pos c1, if_pos c1]; rfl
      · rw [if_neg c1, if_neg c1, if_neg c4]; rfl
  · exact ⟨_, (g14 _ (by omega)).trans ((g13 _ (by omega)).trans ((g12 _ (by omega) (by omega)).trans ((g11 _ (by omega) (by omega)).trans ((g10 _ (by omega) (by omega)).trans ((g9 _ (by omega) (by omega)).trans ((g8 _ (by omega) (by omega)).trans ((g7 _ (by omega) (by omega)).trans ((g6 _ (by omega) (by omega)).trans ((g5 _ (by omega) (by omega)).trans ((g4 _ (by omega) (by omega)).trans ((g3 _ (by omega) (by omega)).trans c2))))))))))), fun j hj => rfl, fun w hw => absurd hw (by decide +revert)⟩
  · exact ⟨_, (g14 _ (by omega)).trans ((g13 _ (by omega)).trans ((g12 _ (by omega) (by omega)).trans ((g11 _ (by omega) (by omega)).trans ((g10 _ (by omega) (by omega)).trans ((g9 _ (by omega) (by omega)).trans ((g8 _ (by omega) (by omega)).trans ((g7 _ (by omega) (by omega)).trans ((g6 _ (by omega) (by omega)).trans ((g5 _ (by omega) (by omega)).trans ((g4 _ (by omega) (by omega)).trans c3)))))))))), fun j hj => rfl, fun w hw => absurd hw (by decide +revert)⟩
  · exact ⟨_, (g14 _ (by omega)).trans ((g13 _ (by omega)).trans ((g12 _ (by omega) (by omega)).trans ((g11 _ (by omega) (by omega)).trans ((g10 _ (by omega) (by omega)).trans ((g9 _ (by omega) (by omega)).trans ((g8 _ (by omega) (by omega)).trans ((g7 _ (by omega) (by omega)).trans ((g6 _ (by omega) (by omega)).trans ((g5 _ (by omega) (by omega)).trans c4))))))))), fun j hj => rfl, fun w hw => absurd hw (by decide +revert)⟩
  · exact (g14 _ (by omega)).trans ((g13 _ (by omega)).trans ((g12 _ (by omega) (by omega)).trans ((g11 _ (by omega) (by omega)).trans ((g10 _ (by omega) (by omega)).trans ((g9 _ (by omega) (by omega)).trans ((g8 _ (by omega) (by omega)).trans ((g7 _ (by omega) (by omega)).trans ((g6 _ (by omega) (by omega)).trans c5))))))))
  · exact (g14 _ (by omega)).trans ((g13 _ (by omega)).trans ((g12 _ (by omega) (by omega)).trans ((g11 _ (by omega) (by omega)).trans ((g10 _ (by omega) (by omega)).trans ((g9 _ (by omega) (by omega)).trans ((g8 _ (by omega) (by omega)).trans ((g7 _ (by omega) (by omega)).trans c6)))))))
  · exact (g14 _ (by omega)).trans ((g13 _ (by omega)).trans ((g12 _ (by omega) (by omega)).trans ((g11 _ (by omega) (by omega)).trans ((g10 _ (by omega) (by omega)).trans ((g9 _ (by omega) (by omega)).trans ((g8 _ (by omega) (by omega)).trans c7))))))
  · exact (g14 _ (by omega)).trans ((g13 _ (by omega)).trans ((g12 _ (by omega) (by omega)).trans ((g11 _ (by omega) (by omega)).trans ((g10 _ (by omega) (by omega)).trans ((g9 _ (by omega) (by omega)).trans c8)))))
  · exact (g14 _ (by omega)).trans ((g13 _ (by omega)).trans ((g12 _ (by omega) (by omega)).trans ((g11 _ (by omega) (by omega)).trans ((g10 _ (by omega) (by omega)).trans c9))))
  · exact (g14 _ (by omega)).trans ((g13 _ (by omega)).trans ((g12 _ (by omega) (by omega)).trans ((g11 _ (by omega) (by omega)).trans c10)))
  · exact (g14 _ (by omega)).trans ((g13 _ (by omega)).trans ((g12 _ (by omega) (by omega)).trans c11))
  · exact (g14 _ (by omega)).trans ((g13 _ (by omega)).trans c12)
theorem r00_ok : OKr r00 := ⟨⟨by decide, by decide, by decide, by decide, by decide, by decide⟩, fun i hi => by
  unfold r00
  rw [if_neg (by omega), if_neg (by omega)]
  omega, fun w hw => absurd hw (by
  show ¬ w < 0
  omega)⟩
theorem the_start : Sim_start Rel := by
  intro z
  obtain ⟨ρ1, e1, f1, x0, x1, x2, x3, x4⟩ := x_init9 ρN z
  obtain ⟨ρ2, e2, f2, m0, m1, m2, m3, m4, m5, m6, m7⟩ := m_init ρ1 z
  refine ⟨ρ1, z + 36, ρ2, z + 49, e1, e2, z, 0, (r00, 0), (r00, 0), (r00, 0), (fun _ _ => 0), (fun _ _ => 0), (fun _ => 0), r00, r0z, r0z, r0z, (fun _ => 0), (fun _ => 0), (fun _ _ => 0), (fun _ => 0), ⟨rfl, rfl, rfl⟩, ?_, ⟨⟨by omega, rfl⟩, ⟨rfl, r00_ok, ⟨by decide, fun w hw => absurd hw (by
    show ¬ w < 0
    omega)⟩⟩, fun h => by omega⟩, fun e he => Or.inl ⟨rfl, rfl⟩⟩
  have k : ∀ y, y < z + 36 → (rset ρ2 (z + 49) (lC 1 (fun _ => 0))) y = ρ1 y := fun y hy => (rset_n (by omega)).trans (f2 y (by omega))
  have m : ∀ y, y < z + 49 → (rset ρ2 (z + 49) (lC 1 (fun _ => 0))) y = ρ2 y := fun y hy => rset_n (by omega)
  refine ⟨(k _ (by omega)).trans x0, HouseR.fr (fun j hj => k _ (by omega)) x1, HouseR.fr (fun j hj => k _ (by omega)) x2, HouseR.fr (fun j hj => k _ (by omega)) x3, ShX.fr (fun j h1 h2 => k _ (by omega)) x4, (m _ (by omega)).trans m0, ArrR.fr (m _ (by omega)) m1, ArrR.fr (m _ (by omega)) m2, ArrR.fr (m _ (by omega)) m3, ArrR.fr (m _ (by omega)) m4, (m _ (by omega)).trans m5, (m _ (by omega)).trans m6, ShM.fr (fun j h1 h2 => m _ (by omega)) m7, ⟨_, rset_s⟩⟩
