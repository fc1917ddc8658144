/-! the reference's walks -/
theorem yq_73 (post : Int32 → Prop) (J : Int32 → Int32 → Prop) (x2 x3 f : Int32) (g p : Nat → Int32) (A m : Nat) (hA : A < 2 ^ 31) (H : J (nI A) (nI (m + 1))) : wY_isPair_73 post J x2 x3 (nI A) (nI m) f g p :=
  br_t (nI_pos' hA) (nm_r (nI_1 m) H)
theorem yq_ip (post : Int32 → Prop) (c : Nat) (hc : c ≤ 60) (g p : Nat → Int32) (k : Nat) (hk3 : k ≤ 3) (i j : Nat) (hj : j ≤ c)
    (H1 : hs_o (hs_g c g k) (i + 1) j = 0 → hs_c (hs_g c g k) (i + 1) j = 0 → post 1) (H0 : ¬ (hs_o (hs_g c g k) (i + 1) j = 0 ∧ hs_c (hs_g c g k) (i + 1) j = 0) → post 0) :
    ∀ d m : Nat, m + d = j → i + 1 ≤ m → hs_c (hs_g c g k) (i + 1) m = 0 → wY_isPair_37 post (nI j) (nI k) (nI c) g p (d + 1) (nI (hs_o (hs_g c g k) (i + 1) m)) (nI m) := by
  intro d
  induction d with
  | zero =>
    intro m h1 h2 h3
    rw [show m = j from by omega] at h3 ⊢
    have b := hs_ole (hs_g c g k) (i + 1) j
    exact br_t (nI_le (by omega) (by omega)) (pk_eq (hs_o (hs_g c g k) (i + 1) j) 0 (fun z => H1 z h3) (fun z => H0 (fun y => z y.1)) rfl rfl (by omega) (by omega))
  | succ d ih =>
    intro m h1 h2 h3
    have b := hs_ole (hs_g c g k) (i + 1) m
    have v : vp_in (nI m) 60 := vp_in_nI (by omega) (by omega)
    have cm : (nI m).toNatClampNeg = m := nI_clamp (by omega)
    have mo := hs_om (hs_g c g k) (a := i + 1) (m := m) (b := m + 1) h2 (by omega)
    have mc := hs_cm (hs_g c g k) (a := i + 1) (m := m) (b := m + 1) h2 (by omega)
    have g1 := hs_g1 (c := c) (g := g) (k := k) (j := m) (by omega)
    have g2 := hs_g2 (c := c) (g := g) (k := k) (j := m) hk3 (by omega)
    have e3 : nI k + 3 = nI (k + 3) := nI_add k 3
    refine br_f (nI_ge (by omega) (by omega)) ⟨v, ?_⟩
    rcases hs_1 (hs_g c g k) m with ⟨x, y, z⟩ | ⟨x, y, z⟩ | ⟨x, x', y, z⟩
    · have n2 : ¬ g m = nI (k + 3) := fun w => by rw [g2.mpr w] at x; exact absurd x (by decide)
      refine br_t (by rw [cm]; exact g1.mp x) (nm_r (nI_1 _) ⟨v, br_f (by rw [cm, e3]; exact n2) (yq_73 _ _ _ _ _ _ _ _ m (by omega) ?_)⟩)
      have h := ih (m + 1) (by omega) (by omega) (by omega)
      rw [show hs_o (hs_g c g k) (i + 1) (m + 1) = hs_o (hs_g c g k) (i + 1) m + 1 from by omega] at h
      exact h
    · have n1 : ¬ g m = nI k := fun w => by rw [g1.mpr w] at x; exact absurd x (by decide)
      refine br_f (by rw [cm]; exact n1) ⟨v, br_t (by rw [cm, e3]; exact g2.mp x) ?_⟩
      by_cases w : hs_o (hs_g c g k) (i + 1) m = 0
      · have mono := hs_cmono (hs_g c g k) (a := i + 1) (m := m + 1) (b := j) (by omega) (by omega)
        rw [w]
        exact nm_e (br_f (by decide) (H0 (fun u => by omega)))
      · obtain ⟨A, hA⟩ : ∃ A, hs_o (hs_g c g k) (i + 1) m = A + 1 := ⟨hs_o (hs_g c g k) (i + 1) m - 1, by omega⟩
        rw [hA]
        refine nm_r (pk_m1 A) (yq_73 _ _ _ _ _ _ _ A m (by omega) ?_)
        have h := ih (m + 1) (by omega) (by omega) (by omega)
        rw [show hs_o (hs_g c g k) (i + 1) (m + 1) = A from by omega] at h
        exact h
    · refine br_f (by rw [cm]; exact fun w => x (g1.mpr w)) ⟨v, br_f (by rw [cm, e3]; exact fun w => x' (g2.mpr w)) (yq_73 _ _ _ _ _ _ _ _ m (by omega) ?_)⟩
      have h := ih (m + 1) (by omega) (by omega) (by omega)
      rw [show hs_o (hs_g c g k) (i + 1) (m + 1) = hs_o (hs_g c g k) (i + 1) m from by omega] at h
      exact h
theorem yq_pair (post : Int32 → Prop) (c : Nat) (hc : c ≤ 60) (g p : Nat → Int32) (k : Nat) (hk3 : k ≤ 3) (i j : Nat) (hi : i < c) (hj : j < c)
    (H1 : hs_pr (hs_g c g k) i j → post 1) (H0 : ¬ hs_pr (hs_g c g k) i j → post 0) : wpY_isPair post (nI c, g, p) (nI i) (nI j) (nI k) := by
  have vi : vp_in (nI i) 60 := vp_in_nI (by omega) (by omega)
  have vj : vp_in (nI j) 60 := vp_in_nI (by omega) (by omega)
  have ci : (nI i).toNatClampNeg = i := nI_clamp (by omega)
  have cj : (nI j).toNatClampNeg = j := nI_clamp (by omega)
  have e3 : nI k + 3 = nI (k + 3) := nI_add k 3
  refine pk_le j i (fun z => H0 (fun w => by have := w.1; omega)) (fun z => ⟨vi, ?_⟩)
  by_cases h1 : g i = nI k
  · refine br_t (by rw [ci]; exact h1) ⟨vj, ?_⟩
    by_cases h2 : g j = nI (k + 3)
    · refine br_t (by rw [cj, e3]; exact h2) (nm_r (nI_1 i) ⟨j - (i + 1) + 1, ?_⟩)
      have h := yq_ip post c hc g p k hk3 i j (by omega) (fun a b => H1 ⟨z, (hs_g1 hi).mpr h1, (hs_g2 hk3 hj).mpr h2, a, b⟩) (fun a => H0 (fun w => a ⟨w.2.2.2.1, w.2.2.2.2⟩)) (j - (i + 1)) (i + 1) (by omega) (by omega) (hs_cc _ _)
      rw [hs_oo] at h
      exact h
    · exact br_f (by rw [cj, e3]; exact h2) (H0 (fun w => h2 ((hs_g2 hk3 hj).mp w.2.2.1)))
  · exact br_f (by rw [ci]; exact h1) (H0 (fun w => h1 ((hs_g1 hi).mp w.2.1)))
theorem yq_m36 (post : Int32 → Prop) (c : Nat) (hc : c ≤ 60) (g p : Nat → Int32) (k : Nat) (hk3 : k ≤ 3) (i f t : Nat) (hi : i < c) (ht : t ≤ c)
    (H1 : ∀ j, f ≤ j → j < t → (hs_pr (hs_g c g k) i j ∨ hs_pr (hs_g c g k) j i) → post (nI j))
    (H0 : (∀ j, f ≤ j → j < t → ¬ (hs_pr (hs_g c g k) i j ∨ hs_pr (hs_g c g k) j i)) → post (-3)) :
    ∀ d m : Nat, m + d = t → f ≤ m → (∀ j, f ≤ j → j < m → ¬ (hs_pr (hs_g c g k) i j ∨ hs_pr (hs_g c g k) j i)) →
      wY_mate_36 post (nI i) (nI t) (nI k) (nI c) g p (d + 1) (nI m) := by
  intro d
  induction d with
  | zero =>
    intro m h1 h2 h3
    exact br_t (nI_le (by omega) (by omega)) (H0 (fun j a b => h3 j a (by omega)))
  | succ d ih =>
    intro m h1 h2 h3
    refine br_f (nI_ge (by omega) (by omega)) (yq_pair _ c hc g p k hk3 i m hi (by omega) (fun z => br_f (by decide) (H1 m h2 (by omega) (Or.inl z))) (fun z => br_t rfl (yq_pair _ c hc g p k hk3 m i (by omega) hi (fun w => br_f (by decide) (H1 m h2 (by omega) (Or.inr w))) (fun w => br_t rfl (nm_r (nI_1 m) (ih (m + 1) (by omega) (by omega) ?_))))))
    intro j a b
    by_cases e : j = m
    · subst e; exact fun y => y.elim z w
    · exact h3 j a (by omega)
theorem yq_mateO (post : Int32 → Prop) (c : Nat) (hc : c ≤ 60) (g p : Nat → Int32) (k : Nat) (hk1 : 1 ≤ k) (hk3 : k ≤ 3) (i f t : Nat) {x1 x2 : Int32} (e1 : x1 = nI f) (e2 : x2 = nI t) (hi : i < c) (hft : f ≤ t) (ht : t ≤ c) (hg : g i = nI k)
    (H1 : ∀ j, f ≤ j → j < t → hs_pr (hs_g c g k) i j → post (nI j)) (H0 : (∀ j, f ≤ j → j < t → ¬ hs_pr (hs_g c g k) i j) → post (-3)) :
    wpY_mate post (nI c, g, p) (nI i) x1 x2 := by
  subst e1 e2
  have ci : (nI i).toNatClampNeg = i := nI_clamp (by omega)
  have no : ∀ j, ¬ hs_pr (hs_g c g k) j i := fun j w => by
    have a := w.2.2.1
    rw [(hs_g1 hi).mpr hg] at a
    exact absurd a (by decide)
  refine ⟨vp_in_nI (by omega) (by omega), nm_r (e' := nI k) (by rw [ci]; exact hg) (br_f (nI_nlt (a := 3) hk3 (by decide)) (br_f (nI_ne0 hk1 (by omega)) ⟨t - f + 1, ?_⟩))⟩
  exact yq_m36 post c hc g p k hk3 i f t hi ht (fun j a b w => H1 j a b (w.elim id (fun y => absurd y (no j)))) (fun w => H0 (fun j a b y => w j a b (Or.inl y))) (t - f) f (by omega) (by omega) (fun j a b => absurd a (by omega))
theorem yq_mateC (post : Int32 → Prop) (c : Nat) (hc : c ≤ 60) (g p : Nat → Int32) (k : Nat) (hk1 : 1 ≤ k) (hk3 : k ≤ 3) (i f t : Nat) {x1 x2 : Int32} (e1 : x1 = nI f) (e2 : x2 = nI t) (hi : i < c) (hft : f ≤ t) (ht : t ≤ c) (hg : g i = nI (k + 3))
    (H1 : ∀ j, f ≤ j → j < t → hs_pr (hs_g c g k) j i → post (nI j)) (H0 : (∀ j, f ≤ j → j < t → ¬ hs_pr (hs_g c g k) j i) → post (-3)) :
    wpY_mate post (nI c, g, p) (nI i) x1 x2 := by
  subst e1 e2
  have ci : (nI i).toNatClampNeg = i := nI_clamp (by omega)
  have no : ∀ j, ¬ hs_pr (hs_g c g k) i j := fun j w => by
    have a := w.2.1
    rw [(hs_g2 hk3 hi).mpr hg] at a
    exact absurd a (by decide)
  have e3 : nI (k + 3) - 3 = nI k := by rw [show (3 : Int32) = nI 3 from rfl, pk_sub (by omega)]; exact congrArg nI (by omega)
  refine ⟨vp_in_nI (by omega) (by omega), nm_r (e' := nI (k + 3)) (by rw [ci]; exact hg) (br_t (nI_lt (a := 3) (by omega) (by omega)) (br_f (nI_ne0 (by omega) (by omega)) ⟨t - f + 1, ?_⟩))⟩
  rw [e3]
  exact yq_m36 post c hc g p k hk3 i f t hi ht (fun j a b w => H1 j a b (w.elim (fun y => absurd y (no j)) id)) (fun w => H0 (fun j a b y => w j a b (Or.inr y))) (t - f) f (by omega) (by omega) (fun j a b => absurd a (by omega))
theorem yq_n3 {j : Nat} (h : j < 2 ^ 31) : ¬ nI j = -3 := fun z => nI_pos h (by rw [z]; decide)
theorem yq_ar (post : Int32 → Prop) (c : Nat) (hc : c ≤ 60) (g p : Nat → Int32) (k : Nat) (hk1 : 1 ≤ k) (hk3 : k ≤ 3) (b : Nat) (hb : b < c)
    (H1 : ∀ i, i < b → (∃ j, b + 1 ≤ j ∧ j < c ∧ hs_pr (hs_g c g k) i j) → (∀ i', i < i' → i' < b → ¬ ∃ j, b + 1 ≤ j ∧ j < c ∧ hs_pr (hs_g c g k) i' j) → post (nI i))
    (H0 : (∀ i, i < b → ¬ ∃ j, b + 1 ≤ j ∧ j < c ∧ hs_pr (hs_g c g k) i j) → post (-3)) :
    ∀ i : Nat, i ≤ b → (∀ i', i ≤ i' → i' < b → ¬ ∃ j, b + 1 ≤ j ∧ j < c ∧ hs_pr (hs_g c g k) i' j) → wY_around_24 post (nI b) (nI k) (nI c) g p (i + 1) (nI i - 1) := by
  intro i
  induction i with
  | zero =>
    intro h1 h2
    exact br_t (by decide) (H0 (fun i a => h2 i (by omega) a))
  | succ i ih =>
    intro h1 h2
    have ci : (nI i).toNatClampNeg = i := nI_clamp (by omega)
    rw [nI_pred]
    refine br_f (nI_pos (by omega)) ⟨vp_in_nI (by omega) (by omega), ?_⟩
    have K : (¬ ∃ j, b + 1 ≤ j ∧ j < c ∧ hs_pr (hs_g c g k) i j) → ∀ y, y = nI i + (-1) → wY_around_24 post (nI b) (nI k) (nI c) g p (i + 1) y := by
      intro n
      refine nm_r (e' := nI i - 1) (Int32.sub_eq_add_neg ..).symm (ih (by omega) (fun i' a1 a2 => ?_))
      by_cases e : i' = i
      · subst e; exact n
      · exact h2 i' (by omega) a2
    by_cases hg : g i = nI k
    · refine br_t (by rw [ci]; exact hg) (yq_mateO _ c hc g p k hk1 hk3 i (b + 1) c (nI_1 b) rfl (by omega) (by omega) (by omega) hg (fun j a1 a2 a3 => br_f (yq_n3 (by omega)) (H1 i (by omega) ⟨j, a1, a2, a3⟩ (fun i' b1 b2 => h2 i' (by omega) b2))) (fun n => br_t rfl (K (fun w => ?_))))
      obtain ⟨j, a1, a2, a3⟩ := w
      exact n j a1 a2 a3
    · refine br_f (by rw [ci]; exact hg) (K (fun w => ?_))
      obtain ⟨j, a1, a2, a3⟩ := w
      exact hg ((hs_g1 (by omega)).mp a3.2.1)
theorem yq_d36 (post : Int32 → Prop) (J : Int32 → Int32 → Prop) (c : Nat) (hc : c ≤ 60) (g p : Nat → Int32) (k : Nat) (hk3 : k ≤ 3) (b i n0 : Nat) (hi : i < c)
    (H1 : (∃ j, b + 1 ≤ j ∧ j < c ∧ hs_pr (hs_g c g k) i j) → J (nI (n0 + 1)) (nI (i + 1))) (H0 : (¬ ∃ j, b + 1 ≤ j ∧ j < c ∧ hs_pr (hs_g c g k) i j) → J (nI n0) (nI (i + 1))) :
    ∀ d j n : Nat, j + d = c → b + 1 ≤ j → ((n = n0 ∧ ¬ ∃ j', b + 1 ≤ j' ∧ j' < j ∧ hs_pr (hs_g c g k) i j') ∨ (n = n0 + 1 ∧ ∃ j', b + 1 ≤ j' ∧ j' < j ∧ hs_pr (hs_g c g k) i j')) →
      wY_depth_36 post J (nI b) (nI k) (nI i) (nI c) g p (d + 1) (nI n) (nI j) := by
  intro d
  induction d with
  | zero =>
    intro j n h1 h2 h3
    rw [show j = c from by omega] at h3
    refine br_t (nI_le (by omega) (by omega)) (nm_r (nI_1 i) ?_)
    rcases h3 with ⟨rfl, h⟩ | ⟨rfl, h⟩
    · exact H0 h
    · exact H1 h
  | succ d ih =>
    intro j n h1 h2 h3
    refine br_f (nI_ge (by omega) (by omega)) (yq_pair _ c hc g p k hk3 i j hi (by omega) (fun z => br_f (by decide) (nm_r (nI_1 n) (nm_r (nI_1 j) (ih (j + 1) (n + 1) (by omega) (by omega) (Or.inr ?_))))) (fun z => br_t rfl (nm_r (nI_1 j) (ih (j + 1) n (by omega) (by omega) ?_))))
    · rcases h3 with ⟨e, h⟩ | ⟨e, j', a1, a2, a3⟩
      · exact ⟨by omega, j, h2, by omega, z⟩
      · exact absurd (hs_prUR _ z a3) (by omega)
    · rcases h3 with ⟨e, h⟩ | ⟨e, j', a1, a2, a3⟩
      · refine Or.inl ⟨e, fun w => ?_⟩
        obtain ⟨j', a1, a2, a3⟩ := w
        by_cases y : j' = j
        · subst y; exact z a3
        · exact h ⟨j', a1, by omega, a3⟩
      · exact Or.inr ⟨e, j', a1, by omega, a3⟩
theorem yq_lo (post : Int32 → Prop) (c : Nat) (hc : c ≤ 60) (g p : Nat → Int32) (k : Nat) (hk1 : 1 ≤ k) (hk3 : k ≤ 3) (a l : Nat) (hal : a + l ≤ c) (H : post (nI (hs_o (hs_g c g k) a (a + l)))) :
    ∀ d i n : Nat, i + d = a + l → a ≤ i → n + hs_o (hs_g c g k) i (a + l) = hs_o (hs_g c g k) a (a + l) → wY_loose_6 post (nI a) (nI l) (nI k) (nI c) g p (d + 1) (nI n) (nI i) := by
  intro d
  induction d with
  | zero =>
    intro i n h1 h2 h3
    rw [show i = a + l from by omega, hs_oo] at h3
    rw [← h3] at H
    refine br_t ?_ H
    rw [nI_add]
    exact nI_le (by omega) (by omega)
  | succ d ih =>
    intro i n h1 h2 h3
    have ci : (nI i).toNatClampNeg = i := nI_clamp (by omega)
    have st := hs_stO (hs_g c g k) (i := i) (b := a + l) (by omega)
    refine br_f ?_ ⟨vp_in_nI (by omega) (by omega), ?_⟩
    · rw [nI_add]; exact nI_ge (by omega) (by omega)
    · by_cases hg : g i = nI k
      · refine br_t (by rw [ci]; exact hg) (yq_mateO _ c hc g p k hk1 hk3 i a (a + l) rfl (nI_add a l) (by omega) (by omega) hal hg (fun j a1 a2 a3 => br_f (yq_n3 (by omega)) (nm_r (nI_1 i) (ih (i + 1) n (by omega) (by omega) ?_))) (fun w => br_t rfl (nm_r (nI_1 n) (nm_r (nI_1 i) (ih (i + 1) (n + 1) (by omega) (by omega) ?_)))))
        · rcases st with ⟨_, x, _⟩ | ⟨_, y⟩
          · exact absurd ⟨j, a3.1, a2, a3⟩ x
          · rw [← y]; exact h3
        · rcases st with ⟨_, _, y⟩ | ⟨x, _⟩
          · omega
          · rcases x with x | ⟨j, b1, b2, b3⟩
            · exact absurd ((hs_g1 (by omega)).mpr hg) x
            · exact absurd b3 (w j (by omega) b2)
      · refine br_f (by rw [ci]; exact hg) (nm_r (nI_1 i) (ih (i + 1) n (by omega) (by omega) ?_))
        rcases st with ⟨x, _⟩ | ⟨_, y⟩
        · exact absurd ((hs_g1 (by omega)).mp x) hg
        · rw [← y]; exact h3
theorem yq_lc (post : Int32 → Prop) (c : Nat) (hc : c ≤ 60) (g p : Nat → Int32) (k : Nat) (hk1 : 1 ≤ k) (hk3 : k ≤ 3) (a l : Nat) (hal : a + l ≤ c) (H : post (nI (hs_c (hs_g c g k) a (a + l)))) :
    ∀ d i : Nat, i + d = a + l → a ≤ i → wY_loose_6 post (nI a) (nI l) (nI (k + 3)) (nI c) g p (d + 1) (nI (hs_c (hs_g c g k) a i)) (nI i) := by
  intro d
  induction d with
  | zero =>
    intro i h1 h2
    rw [show i = a + l from by omega]
    refine br_t ?_ H
    rw [nI_add]
    exact nI_le (by omega) (by omega)
  | succ d ih =>
    intro i h1 h2
    have ci : (nI i).toNatClampNeg = i := nI_clamp (by omega)
    have st := hs_stC (hs_g c g k) (a := a) (j := i) h2
    have h := ih (i + 1) (by omega) (by omega)
    refine br_f ?_ ⟨vp_in_nI (by omega) (by omega), ?_⟩
    · rw [nI_add]; exact nI_ge (by omega) (by omega)
    · by_cases hg : g i = nI (k + 3)
      · refine br_t (by rw [ci]; exact hg) (yq_mateC _ c hc g p k hk1 hk3 i a (a + l) rfl (nI_add a l) (by omega) (by omega) hal hg (fun j a1 a2 a3 => br_f (yq_n3 (by omega)) (nm_r (nI_1 i) ?_)) (fun w => br_t rfl (nm_r (nI_1 _) (nm_r (nI_1 i) ?_))))
        · rcases st with ⟨_, x, _⟩ | ⟨_, y⟩
          · exact absurd ⟨j, a1, a3.1, a3⟩ x
          · rw [y] at h; exact h
        · rcases st with ⟨_, _, y⟩ | ⟨x, _⟩
          · rw [y] at h; exact h
          · rcases x with x | ⟨j, b1, b2, b3⟩
            · exact absurd ((hs_g2 hk3 (by omega)).mpr hg) x
            · exact absurd b3 (w j b1 (by omega))
      · refine br_f (by rw [ci]; exact hg) (nm_r (nI_1 i) ?_)
        rcases st with ⟨x, _⟩ | ⟨_, y⟩
        · exact absurd ((hs_g2 hk3 (by omega)).mp x) hg
        · rw [y] at h; exact h
