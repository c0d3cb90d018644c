/-! PURE: what is written. -/
def setE (r : Nat → Nat) (k v : Nat) : Nat → Nat := fun j => if j = k then v else r j
def Fr (ρ ρ' : Rho) (a k : Nat) : Prop := ∀ j, (j < a ∨ a + k ≤ j) → ρ' j = ρ j
theorem Fr.tr {ρ ρ' ρ'' : Rho} {a k : Nat} (h : Fr ρ ρ' a k) (g : Fr ρ' ρ'' a k) : Fr ρ ρ'' a k := fun j hj => (g j hj).trans (h j hj)
theorem Fr.rf {ρ : Rho} {a k : Nat} : Fr ρ ρ a k := fun _ _ => rfl
theorem Fr.set {ρ : Rho} {a k b : Nat} {c : AC} (h1 : a ≤ b) (h2 : b < a + k) : Fr ρ (rset ρ b c) a k := fun j hj => rset_n (by omega)
theorem setE_s {r : Nat → Nat} {k v : Nat} : setE r k v k = v := if_pos rfl
theorem setE_n {r : Nat → Nat} {k v j : Nat} (h : j ≠ k) : setE r k v j = r j := if_neg h
theorem ArrR.set {ρ : Rho} {a j : Nat} {r : Nat → Nat} (h : ArrR ρ a r) (hj : j < 49) (h0 : j ≠ 0) (v : Nat) : ∃ ρ', stI ρ a (nI j) (nI v) = some ρ' ∧ Fr ρ ρ' a 1 ∧ ArrR ρ' a (setE r j v) := by
  obtain ⟨f, hf, h1, h2⟩ := h
  have hu : ∀ k, f k = nI (r k) → upd f j (nI v) k = nI (setE r j v k) := fun k hk => by
    by_cases c : k = j
    · rw [c, pk_us, setE_s]
    · rw [pk_un c, setE_n c, hk]
  refine ⟨_, stI_at hf hj (by omega), Fr.set (by omega) (by omega), _, rset_s, fun k hk => hu k (h1 k hk), fun w hw i hi => hu _ (h2 w ?_ i hi)⟩
  rwa [setE_n (Ne.symm h0)] at hw
theorem m_copies {ρ : Rho} {p t : Nat} {r r0 : Nat → Nat} (h : ArrR ρ p r) (h8 : r 0 ≤ 8) (g : ArrR ρ t r0) (ne : p ≠ t) : ∃ ρ', fX10_copies ρ p t = some ρ' ∧ Fr ρ ρ' t 1 ∧ ArrR ρ' t r := by
  obtain ⟨f, hf, h1, h2⟩ := h
  obtain ⟨g0, hg, -, -⟩ := g
  have key : ∀ k n i g1 ρ1, i + k = 49 → k < n → Fr ρ ρ1 t 1 → ρ1 t = some (iC 49 g1) → (∀ j, j < i → g1 j = f j) → ∃ ρ' g', fX10_copies_2 n ρ1 p t (nI i) = some ρ' ∧ Fr ρ ρ' t 1 ∧ ρ' t = some (iC 49 g') ∧ ∀ j, j < 49 → g' j = f j := by
    intro k
    induction k with
    | zero =>
      intro n i g1 ρ1 hi hn fr ht hj
      obtain ⟨n, rfl⟩ : ∃ p0, n = p0 + 1 := ⟨n - 1, by omega⟩
      obtain rfl : i = 49 := by omega
      rw [fX10_copies_2, if_pos (show (49 : Int32) ≤ nI 49 by decide)]
      exact ⟨ρ1, g1, rfl, fr, ht, hj⟩
    | succ k ih =>
      intro n i g1 ρ1 hi hn fr ht hj
      obtain ⟨n, rfl⟩ : ∃ p0, n = p0 + 1 := ⟨n - 1, by omega⟩
      have hlt : i < 49 := by omega
      rw [fX10_copies_2, if_neg (show ¬ (49 : Int32) ≤ nI i from nI_ge (b := 49) hlt (by omega)), ldI_at ((fr p (by omega)).trans hf) hlt (by omega), Option.bind_some, stI_at ht hlt (by omega), Option.bind_some, nI_1]
      refine ih n (i + 1) _ _ (by omega) (by omega) (fr.tr (Fr.set (by omega) (by omega))) rset_s (fun j hj1 => ?_)
      by_cases c : j = i
      · rw [c, pk_us]
      · rw [pk_un c, hj j (by omega)]
  obtain ⟨ρ', g', e1, e2, e3, e4⟩ := key 49 FU 0 g0 ρ (by omega) (FU_gt (by omega)) Fr.rf hg (fun j hj => absurd hj (by omega))
  exact ⟨ρ', e1, e2, g', e3, fun j hj => (e4 j (by omega)).trans (h1 j hj), fun w hw i hi => (e4 _ (by omega)).trans (h2 w hw i hi)⟩
/-- rows that differ in hour and owed alone -/
def Agr (r r' : Nat → Nat) : Prop := ∀ j, j ≠ 1 → j ≠ 3 → r' j = r j
theorem Agr.shn {r r' : Nat → Nat} (h : Agr r r') (w hh : Nat) : shn r' w hh = shn r w hh ∧ mov r' w hh = mov r w hh := by
  unfold Pilot.CBrickedUpAsBlindLaw_law_r5143_4a5f7e.shn mov apR
  rw [h (9 + 5 * w + 4) (by omega) (by omega), h (9 + 5 * w) (by omega) (by omega), h (9 + 5 * w + 1) (by omega) (by omega), h (9 + 5 * w + 3) (by omega) (by omega)]
  exact ⟨rfl, rfl⟩
theorem Agr.dus {r r' : Nat → Nat} (h : Agr r r') : dus r' = dus r := by
  unfold Pilot.CBrickedUpAsBlindLaw_law_r5143_4a5f7e.dus
  rw [h 0 (by omega) (by omega), h 4 (by omega) (by omega)]
  congr 1
  exact sumTo_congr (fun w _ => by rw [h (9 + 5 * w + 4) (by omega) (by omega), h (9 + 5 * w) (by omega) (by omega), h (9 + 5 * w + 1) (by omega) (by omega)])
theorem Agr.mv {r r' : Nat → Nat} (h : Agr r r') (hh : Nat) : mvD r' hh = mvD r hh ∧ mvN r' hh = mvN r hh := by
  unfold mvD mvN
  rw [h 0 (by omega) (by omega)]
  exact ⟨sumTo_congr (fun w _ => by rw [(h.shn w hh).2, h (9 + 5 * w + 1) (by omega) (by omega)]), sumTo_congr (fun w _ => (h.shn w hh).2)⟩
theorem Agr.yr {r r' : Nat → Nat} (h : Agr r r') (o hh : Nat) : yrO r' o hh = yrO r o hh := by
  unfold yrO
  rw [h.dus, (h.mv hh).1, h 4 (by omega) (by omega)]
theorem Agr.ok {r r' : Nat → Nat} (h : Agr r r') (ok : OKr r) (h1 : r' 1 < 24) (h3 : r' 3 ≤ 99999) : OKr r' := by
  obtain ⟨⟨o0, o1, o2, o3, o4, o5⟩, o6, o7⟩ := ok
  refine ⟨⟨by rw [h 0 (by omega) (by omega)]; exact o0, h1, by rw [h 2 (by omega) (by omega)]; exact o2, h3, by rw [h 4 (by omega) (by omega)]; exact o4, by rw [h 4 (by omega) (by omega)]; exact o5⟩, fun i hi => by rw [h _ (by omega) (by omega)]; exact o6 i hi, fun w hw => ?_⟩
  rw [h 0 (by omega) (by omega)] at hw
  rw [h (9 + 5 * w + 4) (by omega) (by omega), h (9 + 5 * w) (by omega) (by omega), h (9 + 5 * w + 1) (by omega) (by omega), h (9 + 5 * w + 2) (by omega) (by omega), h (9 + 5 * w + 3) (by omega) (by omega)]
  exact o7 w hw
theorem Agr.rf {r : Nat → Nat} : Agr r r := fun _ _ _ => rfl
theorem Agr.set {r r' : Nat → Nat} (h : Agr r r') {k v : Nat} (hk : k = 1 ∨ k = 3) : Agr r (setE r' k v) := fun j h1 h3 => by
  rw [setE_n (by omega)]
  exact h j h1 h3
theorem Agr.bits {r r' : Nat → Nat} {B : Nat} (h : Agr r r') (b : BitsR r B) : BitsR r' B := by
  refine ⟨by rw [h 0 (by omega) (by omega)]; exact b.1, fun w hw => ?_⟩
  rw [h 0 (by omega) (by omega)] at hw
  rw [h (9 + 5 * w + 4) (by omega) (by omega)]
  exact b.2 w hw
theorem mvD_le {r : Nat → Nat} (ok : OKr r) (h : Nat) : mvD r h ≤ 80 := by
  have := sumTo_le (n := r 0) (b := 10) (f := fun w => mov r w h * (r (9 + 5 * w + 1) + 1)) (fun w hw => by
    have g := (ok.2.2 w hw).2.1
    have m := mov_le (r := r) w h
    rcases (show mov r w h = 0 ∨ mov r w h = 1 by omega) with e | e <;> simp only [e] <;> omega)
  have h8 := ok.1.1
  unfold mvD
  omega
theorem dus_le {r : Nat → Nat} (ok : OKr r) : dus r ≤ 1440 := by
  have := sumTo_le (n := r 0) (b := 20) (f := fun w => if r (9 + 5 * w + 4) = 0 then due0 (r (9 + 5 * w)) (r (9 + 5 * w + 1)) else 0) (fun w hw => by
    obtain ⟨g1, g2, -⟩ := ok.2.2 w hw
    show (if _ then _ else _) ≤ 20
    split
    · exact due0_le _ g1 _ g2
    · omega)
  obtain ⟨⟨h0, -, -, -, h4, h5⟩, -⟩ := ok
  unfold dus
  exact Nat.le_trans (Nat.mul_le_mul (Nat.le_trans this (show r 0 * 20 ≤ 160 by omega)) h5) (by omega)
theorem m_year {ρ : Rho} {a : Nat} {r : Nat → Nat} (h : ArrR ρ a r) (ok : OKr r) : ∃ ρ', fX10_year ρ a = some ρ' ∧ Fr ρ ρ' a 1 ∧ ArrR ρ' a (setE r 3 (yrO r (r 3) (r 1))) := by
  have G := h.f ok.1.1
  have hh := ok.1.2.1
  have d1 := dus_le ok
  have d2 := mvD_le ok (r 1)
  have d3 : mvD r (r 1) * r 4 ≤ 720 := Nat.le_trans (Nat.mul_le_mul d2 ok.1.2.2.2.2.2) (by omega)
  have d4 := ok.1.2.2.2.1
  obtain ⟨ρ', e1, e2, e3⟩ := h.set (j := 3) (by omega) (by omega) (yrO r (r 3) (r 1))
  refine ⟨ρ', ?_, e2, e3⟩
  unfold fX10_year
  have g0 := G.1 3 (by omega)
  have g1 := G.1 1 (by omega)
  have g4 := G.1 4 (by omega)
  have el : fX10_least ρ 99999 (nI (r 3 + dus r + mvD r (r 1) * r 4)) = some (nI (yrO r (r 3) (r 1))) := by
    unfold fX10_least yrO
    by_cases c : r 3 + dus r + mvD r (r 1) * r 4 < 99999
    · rw [if_pos (show nI _ ≤ (99999 : Int32) from nI_le (b := 99999) (by omega) (by omega)), if_pos c]
    · rw [if_neg c]
      by_cases c2 : r 3 + dus r + mvD r (r 1) * r 4 = 99999
      · rw [c2]
        rfl
      · rw [if_neg (show ¬ nI _ ≤ (99999 : Int32) from nI_ge (a := 99999) (by omega) (by omega))]
        rfl
  rw [show (3 : Int32) = nI 3 from rfl, g0, Option.bind_some, m_duesOf G ok, Option.bind_some, show (1 : Int32) = nI 1 from rfl, g1, Option.bind_some, m_movesDue G ok hh, Option.bind_some, show (4 : Int32) = nI 4 from rfl, g4, Option.bind_some, nI_add, pk_mul, nI_add, el, Option.bind_some, e1, Option.bind_some]
theorem HouseR.pt {ρ : Rho} {a B : Nat} {r : Nat → Nat} (h : HouseR ρ a r B) {j : Nat} (hj : 1 ≤ j ∧ j ≤ 4) (v : Nat) : ∃ ρ', ptV ρ 0 a (6 + j) (.int (nI v)) = some ρ' ∧ Fr ρ ρ' a 6 ∧ HouseR ρ' a (setE r j v) B := by
  obtain ⟨f1, f2, f3, f4, f5, h0, ⟨h1, h2, h3, h4, h5⟩, hw, hi⟩ := h
  refine ⟨_, ptV_at h0 (by show _ < 11; omega), Fr.set (by omega) (by omega), f1, f2, f3, f4, f5, ?_, ⟨?_, ?_, ?_, ?_, ?_⟩, fun w hlt => ?_, fun i hlt => ?_⟩
  · rw [rset_s]
    rcases (show j = 1 ∨ j = 2 ∨ j = 3 ∨ j = 4 by omega) with rfl | rfl | rfl | rfl <;> rfl
  · rw [rset_n (by omega)]; exact h1
  · rw [rset_n (by omega)]; exact h2
  · rw [rset_n (by omega)]; exact h3
  · rw [rset_n (by omega)]; exact h4
  · rw [rset_n (by omega)]; exact h5
  · rw [setE_n (by omega)] at hlt
    rw [setE_n (by omega), setE_n (by omega), setE_n (by omega), setE_n (by omega)]
    exact hw w hlt
  · rw [setE_n (by omega)]
    exact hi i hlt
theorem HouseR.ptB {ρ : Rho} {a B : Nat} {r : Nat → Nat} (h : HouseR ρ a r B) (v : Nat) : ∃ ρ', ptV ρ 0 a 6 (.int (nI v)) = some ρ' ∧ Fr ρ ρ' a 6 ∧ HouseR ρ' a r v := by
  obtain ⟨f1, f2, f3, f4, f5, h0, ⟨h1, h2, h3, h4, h5⟩, hw, hi⟩ := h
  refine ⟨_, ptV_at h0 (by show _ < 11; omega), Fr.set (by omega) (by omega), f1, f2, f3, f4, f5, ?_, ⟨?_, ?_, ?_, ?_, ?_⟩, hw, hi⟩
  · rw [rset_s]; rfl
  · rw [rset_n (by omega)]; exact h1
  · rw [rset_n (by omega)]; exact h2
  · rw [rset_n (by omega)]; exact h3
  · rw [rset_n (by omega)]; exact h4
  · rw [rset_n (by omega)]; exact h5
theorem cpI_at {ρ : Rho} {p t k : Nat} {f g : Nat → Int32} (hp : ρ p = some (iC k f)) (ht : ρ t = some (iC k g)) (hk : k < 2 ^ 31) : cpI ρ p (nI 0) t (nI 0) (nI k) = some (rset ρ t (iC k (va_cpy f g 0 0 k))) := by
  unfold cpI
  rw [hp, ht]
  show (if nI 0 < 0 ∨ nI 0 < 0 ∨ nI k < 0 ∨ k < (nI 0).toNatClampNeg + (nI k).toNatClampNeg ∨ k < (nI 0).toNatClampNeg + (nI k).toNatClampNeg then none else some (rset ρ t (iC k (va_cpy f g (nI 0).toNatClampNeg (nI 0).toNatClampNeg (nI k).toNatClampNeg)))) = _
  rw [nI_clamp hk, nI_clamp (show 0 < 2 ^ 31 by omega), if_neg]
  have h1 : ¬ nI k < 0 := nI_pos hk
  have h2 : ¬ nI 0 < 0 := by decide
  simp only [h1, h2, false_or]
  omega
