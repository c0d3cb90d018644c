/-! PURE: looks, the reference's side, and both searches. -/
theorem MO.k9 {ρ : Rho} {z : Nat} {mo : Nat → Int32} (h : MO ρ z mo) : gR ρ 3 (z + 36) 9 = some (z + 42) := gR_at h rfl
section LK
variable {σ : Rho} {x : Nat} {r : Nat → Nat} {mo t : Nat → Int32}
def LkS (σ : Rho) (x : Nat) (mo : Nat → Int32) (r : Nat → Nat) (t : Nat → Int32) : Prop := MO σ x mo ∧ ArrR σ (x + 37) r ∧ σ (x + 42) = some (iC 8 t) ∧ ∀ w, w < r 0 → t w = pI r w 24
theorem m_unlike (ok : OKr r) (L : LkS σ x mo r t) (M : Int32) : (uP r M → fX10_areUnlike σ (x + 36) M = some (nI 1)) ∧ (¬ uP r M → fX10_areUnlike σ (x + 36) M = some (nI 0)) := by
  have h8 := ok.1.1
  obtain ⟨O, A, T, ht⟩ := L
  have G := A.f h8
  have L0 : ldI σ (x + 37) 0 = some (nI (r 0)) := G.1 0 (by omega)
  have inner : ∀ (k2 : Nat → Int32 → Int32 → Option Int32) a, a < r 0 → ∀ k n j, j + k = r 0 → k < n → a < j → ((∀ b, j ≤ b → ¬ cf r M a b) → fX10_areUnlike_16 σ k2 n (x + 36) M (nI a) (nI j) = k2 (x + 36) M (nI (a + 1))) ∧ ((∃ b, j ≤ b ∧ cf r M a b) → fX10_areUnlike_16 σ k2 n (x + 36) M (nI a) (nI j) = some (nI 0)) := by
    intro k2 a ha k
    induction k with
    | zero =>
      intro n j hj hn haj
      obtain ⟨n, rfl⟩ : ∃ p0, n = p0 + 1 := ⟨n - 1, by omega⟩
      obtain rfl : j = r 0 := by omega
      refine ⟨fun _ => ?_, fun ⟨b, h1, h2⟩ => absurd h2.1 (by omega)⟩
      rw [fX10_areUnlike_16, O.s, Option.bind_some, L0, Option.bind_some, if_pos (nI_le (Nat.le_refl _) (by omega)), nI_1]
    | succ k ih =>
      intro n j hj hn haj
      obtain ⟨n, rfl⟩ : ∃ p0, n = p0 + 1 := ⟨n - 1, by omega⟩
      have hlt : j < r 0 := by omega
      obtain ⟨e1, e2⟩ := ih n (j + 1) (by omega) (by omega) (by omega)
      have st : (¬ cf r M a j → fX10_areUnlike_16 σ k2 (n + 1) (x + 36) M (nI a) (nI j) = fX10_areUnlike_16 σ k2 n (x + 36) M (nI a) (nI (j + 1))) ∧ (cf r M a j → fX10_areUnlike_16 σ k2 (n + 1) (x + 36) M (nI a) (nI j) = some (nI 0)) := by
        have l1 : ldI σ (x + 42) (nI a) = some (pI r a 24) := (ldI_at T (show a < 8 by omega) (by omega)).trans (by rw [ht a ha])
        have l2 : ldI σ (x + 42) (nI j) = some (pI r j 24) := (ldI_at T (show j < 8 by omega) (by omega)).trans (by rw [ht j hlt])
        have b1 := (ok.2.2 a ha).2.2.2.2
        have b2 := (ok.2.2 j hlt).2.2.2.2
        rw [fX10_areUnlike_16, O.s, Option.bind_some, L0, Option.bind_some, if_neg (nI_ge hlt (by omega)), Option.bind_some, m_isOpen G ok ha, Option.bind_some, Option.bind_some, m_isOpen G ok hlt, Option.bind_some, O.k9, Option.bind_some, l1, Option.bind_some, Option.bind_some, l2, Option.bind_some, fX10_areUnlike_69, nI_1]
        rcases (show r (9 + 5 * a + 4) = 0 ∨ r (9 + 5 * a + 4) = 1 by omega) with c1 | c1
        · rw [c1, if_neg (show ¬ nI (1 - 0) = 0 from n10)]
          rcases (show r (9 + 5 * j + 4) = 0 ∨ r (9 + 5 * j + 4) = 1 by omega) with c2 | c2
          · rw [c2, if_neg (show ¬ nI (1 - 0) = 0 from n10)]
            constructor
            · intro h
              rw [if_neg (show ¬ pI r a 24 &&& M = pI r j 24 &&& M from fun q => h ⟨hlt, c1, c2, q⟩)]
            · intro h
              rw [if_pos h.2.2.2]
              rfl
          · rw [c2, if_pos (show nI (1 - 1) = 0 from rfl)]
            exact ⟨fun _ => rfl, fun h => absurd h.2.2.1 (by omega)⟩
        · rw [c1, if_pos (show nI (1 - 1) = 0 from rfl)]
          exact ⟨fun _ => rfl, fun h => absurd h.2.1 (by omega)⟩
      constructor
      · intro h
        rw [st.1 (h j (by omega))]
        exact e1 (fun b h1 => h b (by omega))
      · rintro ⟨b, h1, h3⟩
        by_cases c : cf r M a j
        · exact st.2 c
        · rw [st.1 c]
          refine e2 ⟨b, ?_, h3⟩
          by_cases q : b = j
          · subst q; exact absurd h3 c
          · omega
  have outer : ∀ k n a, a + k = r 0 → k < n → ((∀ a', a ≤ a' → ∀ b, a' < b → ¬ cf r M a' b) → fX10_areUnlike_2 σ n (x + 36) M (nI a) = some (nI 1)) ∧ ((∃ a', a ≤ a' ∧ ∃ b, a' < b ∧ cf r M a' b) → fX10_areUnlike_2 σ n (x + 36) M (nI a) = some (nI 0)) := by
    intro k
    induction k with
    | zero =>
      intro n a hi hn
      obtain ⟨n, rfl⟩ : ∃ p0, n = p0 + 1 := ⟨n - 1, by omega⟩
      obtain rfl : a = r 0 := by omega
      refine ⟨fun _ => ?_, fun ⟨a', h1, b, h2, h3⟩ => absurd h3.1 (by omega)⟩
      rw [fX10_areUnlike_2, O.s, Option.bind_some, L0, Option.bind_some, if_pos (nI_le (Nat.le_refl _) (by omega))]
      rfl
    | succ k ih =>
      intro n a hi hn
      obtain ⟨n, rfl⟩ : ∃ p0, n = p0 + 1 := ⟨n - 1, by omega⟩
      obtain ⟨e1, e2⟩ := ih n (a + 1) (by omega) (by omega)
      obtain ⟨i1, i2⟩ := inner (fX10_areUnlike_2 σ n) a (by omega) (r 0 - (a + 1)) FU (a + 1) (by omega) (FU_gt (by omega)) (by omega)
      have st : fX10_areUnlike_2 σ (n + 1) (x + 36) M (nI a) = fX10_areUnlike_16 σ (fX10_areUnlike_2 σ n) FU (x + 36) M (nI a) (nI (a + 1)) := by
        rw [fX10_areUnlike_2, O.s, Option.bind_some, L0, Option.bind_some, if_neg (nI_ge (show a < r 0 by omega) (by omega)), nI_1]
      rw [st]
      constructor
      · intro h
        rw [i1 (fun b h2 => h a (by omega) b (by omega))]
        exact e1 (fun a' h1 => h a' (by omega))
      · rintro ⟨a', h1, b, h3, h4⟩
        by_cases c : ∃ b, a + 1 ≤ b ∧ cf r M a b
        · exact i2 c
        · rw [i1 (fun b q1 q3 => c ⟨b, q1, q3⟩)]
          refine e2 ⟨a', ?_, b, h3, h4⟩
          by_cases q : a' = a
          · subst q; exact absurd ⟨b, by omega, h4⟩ c
          · omega
  obtain ⟨o1, o2⟩ := outer (r 0) FU 0 (by omega) (FU_gt (by omega))
  constructor
  · intro h
    exact o1 (fun a _ b hab => h a b hab)
  · intro h
    refine o2 ?_
    have : ∃ a b, a < b ∧ cf r M a b := Classical.byContradiction (fun q => h (fun a b hab hc => q ⟨a, b, hab, hc⟩))
    obtain ⟨a, b, hab, hc⟩ := this
    exact ⟨a, by omega, b, hab, hc⟩
theorem m_fill (ok : OKr r) (O : MO σ x mo) (A : ArrR σ (x + 37) r) (T : σ (x + 42) = some (iC 8 t)) : ∃ σ' t', fX10_looks σ (x + 36) = ((ckO σ' 3 (x + 36)).bind fun _ => (fX10_areUnlike σ' (x + 36) 0).bind fun y => if y = 0 then fX10_looks_82 FU σ' (x + 36) (-4) 0 else some (0, σ')) ∧ Fr σ σ' (x + 42) 1 ∧ LkS σ' x mo r t' := by
  have h8 := ok.1.1
  have key : ∀ k n w σ1 t1, w + k = r 0 → k < n → Fr σ σ1 (x + 42) 1 → σ1 (x + 42) = some (iC 8 t1) → (∀ w', w' < w → t1 w' = pI r w' 24) → ∃ σ' t', fX10_looks_2 n σ1 (x + 36) (nI w) = ((ckO σ' 3 (x + 36)).bind fun _ => (fX10_areUnlike σ' (x + 36) 0).bind fun y => if y = 0 then fX10_looks_82 FU σ' (x + 36) (-4) 0 else some (0, σ')) ∧ Fr σ σ' (x + 42) 1 ∧ LkS σ' x mo r t' := by
    intro k
    induction k with
    | zero =>
      intro n w σ1 t1 hi hn fr T1 h1
      obtain ⟨n, rfl⟩ : ∃ p0, n = p0 + 1 := ⟨n - 1, by omega⟩
      obtain rfl : w = r 0 := by omega
      have O1 : MO σ1 x mo := (fr (x + 36) (by omega)).trans O
      have A1 : ArrR σ1 (x + 37) r := ArrR.fr (fr _ (by omega)) A
      have L0 : ldI σ1 (x + 37) 0 = some (nI (r 0)) := (A1.f h8).1 0 (by omega)
      refine ⟨σ1, t1, ?_, fr, O1, A1, T1, h1⟩
      rw [fX10_looks_2, O1.s, Option.bind_some, L0, Option.bind_some, if_pos (nI_le (Nat.le_refl _) (by omega))]
    | succ k ih =>
      intro n w σ1 t1 hi hn fr T1 h1
      obtain ⟨n, rfl⟩ : ∃ p0, n = p0 + 1 := ⟨n - 1, by omega⟩
      have hlt : w < r 0 := by omega
      have O1 : MO σ1 x mo := (fr (x + 36) (by omega)).trans O
      have A1 : ArrR σ1 (x + 37) r := ArrR.fr (fr _ (by omega)) A
      have L0 : ldI σ1 (x + 37) 0 = some (nI (r 0)) := (A1.f h8).1 0 (by omega)
      have hrs : ∀ j m h σ2 t2, h + j = 24 → j < m → Fr σ σ2 (x + 42) 1 → σ2 (x + 42) = some (iC 8 t2) → (∀ w', w' < w → t2 w' = pI r w' 24) → t2 w = pI r w h → ∃ σ' t', fX10_looks_21 (fX10_looks_2 n) m σ2 (x + 36) (nI w) (nI h) = ((ckO σ' 3 (x + 36)).bind fun _ => (fX10_areUnlike σ' (x + 36) 0).bind fun y => if y = 0 then fX10_looks_82 FU σ' (x + 36) (-4) 0 else some (0, σ')) ∧ Fr σ σ' (x + 42) 1 ∧ LkS σ' x mo r t' := by
        intro j
        induction j with
        | zero =>
          intro m h σ2 t2 hj hm fr2 T2 h2 hw
          obtain ⟨m, rfl⟩ : ∃ p0, m = p0 + 1 := ⟨m - 1, by omega⟩
          obtain rfl : h = 24 := by omega
          rw [fX10_looks_21, if_pos (show (24 : Int32) ≤ nI 24 by decide), nI_1]
          refine ih n (w + 1) σ2 t2 (by omega) (by omega) fr2 T2 (fun w' hw' => ?_)
          by_cases q : w' = w
          · rw [q]; exact hw
          · exact h2 w' (by omega)
        | succ j jh =>
          intro m h σ2 t2 hj hm fr2 T2 h2 hw
          obtain ⟨m, rfl⟩ : ∃ p0, m = p0 + 1 := ⟨m - 1, by omega⟩
          have O2 : MO σ2 x mo := (fr2 (x + 36) (by omega)).trans O
          have A2 : ArrR σ2 (x + 37) r := ArrR.fr (fr2 _ (by omega)) A
          have l2 : ldI σ2 (x + 42) (nI w) = some (pI r w h) := (ldI_at T2 (show w < 8 by omega) (by omega)).trans (by rw [hw])
          have m1 := mov_le (r := r) w h
          have go : ∀ v, v = pI r w (h + 1) → ∃ σ' t', ((stI σ2 (x + 42) (nI w) v).bind fun x21 => fX10_looks_21 (fX10_looks_2 n) m x21 (x + 36) (nI w) (nI (h + 1))) = ((ckO σ' 3 (x + 36)).bind fun _ => (fX10_areUnlike σ' (x + 36) 0).bind fun y => if y = 0 then fX10_looks_82 FU σ' (x + 36) (-4) 0 else some (0, σ')) ∧ Fr σ σ' (x + 42) 1 ∧ LkS σ' x mo r t' := fun v hv => by
            rw [stI_at T2 (show w < 8 by omega) (by omega), Option.bind_some]
            refine jh m (h + 1) _ (upd t2 w v) (by omega) (by omega) (fr2.tr (Fr.set (by omega) (by omega))) rset_s (fun w' hw' => ?_) ?_
            · rw [upd_if, if_neg (by omega)]; exact h2 w' hw'
            · rw [upd_if, if_pos rfl]; exact hv
          rw [fX10_looks_21, if_neg (show ¬ (24 : Int32) ≤ nI h from nI_ge (b := 24) (by omega) (by omega)), O2.k9, Option.bind_some, l2, Option.bind_some, O2.s, Option.bind_some, m_moves (A2.f h8) ok hlt (by omega), Option.bind_some, fX10_looks_53, fX10_looks_53, nI_1]
          rcases (show mov r w h = 0 ∨ mov r w h = 1 by omega) with c | c
          · rw [c, if_pos (show nI 0 = 0 from rfl)]
            refine go _ ?_
            rw [pI, if_pos c]
            exact or0 _
          · rw [c, if_neg n10]
            refine go _ ?_
            rw [pI, if_neg (by omega)]
      rw [fX10_looks_2, O1.s, Option.bind_some, L0, Option.bind_some, if_neg (nI_ge hlt (by omega)), O1.k9, Option.bind_some, stI_at T1 (show w < 8 by omega) (by omega), Option.bind_some]
      exact hrs 24 FU 0 _ (upd t1 w 0) (by omega) (FU_gt (by omega)) (fr.tr (Fr.set (by omega) (by omega))) rset_s (fun w' hw' => by rw [upd_if, if_neg (by omega)]; exact h1 w' hw') (by rw [upd_if, if_pos rfl]; rfl)
  exact key (r 0) FU 0 σ t (by omega) (FU_gt (by omega)) Fr.rf T (fun w' h => by omega)
end LK
