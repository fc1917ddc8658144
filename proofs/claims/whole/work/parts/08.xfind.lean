/-! the component's climbs and descents -/
theorem xf_ci (post : Int32 → Prop) (c : Nat) (g o q : Nat → Int32) (k : Nat) (hk1 : 1 ≤ k) (hk3 : k ≤ 3) (hR : tr_R c g o q) :
    ∀ L node a pd : Nat, L ≤ 6 → node * 2 ^ L = 64 + a → a < 64 → 1 ≤ pd → pd ≤ hs_c (hs_g c g k) a (a + 2 ^ L) →
      (∀ j, a ≤ j → j < a + 2 ^ L → hs_c (hs_g c g k) a j < pd → pd ≤ hs_c (hs_g c g k) a (j + 1) → post (nI j)) →
      wX_closingInside_10 post (nI k) (nI c) g o q (L + 1) (nI node) (nI pd) (nI L) := by
  intro L
  induction L with
  | zero =>
    intro node a pd hL hN ha h1 hp H
    rw [Nat.pow_zero] at hN hp H
    rw [show node = 64 + a from by omega]
    refine br_t (nI_le (a := 0) (b := 0) (by decide) (by decide)) ?_
    rw [show nI (64 + a) - 64 = nI a from by rw [show (64 : Int32) = nI 64 from rfl, pk_sub (by omega)]; exact congrArg nI (by omega)]
    exact H a (by omega) (by omega) (by rw [hs_cc]; omega) hp
  | succ L ih =>
    intro node a pd hL hN ha h1 hp H
    obtain ⟨k1, k2, k3⟩ := tr_kid (by omega) hN ha
    have p := xq_p6 (m := L) (by omega)
    have n1 := xq_nb k1 ha
    have n2 := xq_nb k2 k3
    obtain ⟨eo, ec⟩ := hR k hk1 hk3 (2 * node) L a (xq_nz k1) (by omega) k1 ha
    have ew : a + 2 ^ (L + 1) = a + 2 ^ L + 2 ^ L := by rw [Nat.pow_succ]; omega
    rw [ew] at hp H
    have ex : nI k * 128 + nI (2 * node) = nI (k * 128 + 2 * node) := by rw [show (128 : Int32) = nI 128 from rfl, pk_mul, nI_add]
    have cx : (nI (k * 128 + 2 * node)).toNatClampNeg = k * 128 + 2 * node := nI_clamp (by omega)
    have v : vp_in (nI (k * 128 + 2 * node)) 512 := vp_in_nI (by omega) (by omega)
    have b1 := hs_cle (hs_g c g k) a (a + 2 ^ L)
    have b2 := hs_ole (hs_g c g k) a (a + 2 ^ L)
    have b3 := hs_cle (hs_g c g k) a (a + 2 ^ L + 2 ^ L)
    have mm := hs_cm (hs_g c g k) (a := a) (m := a + 2 ^ L) (b := a + 2 ^ L + 2 ^ L) (Nat.le_add_right _ _) (Nat.le_add_right _ _)
    refine br_f (nI_nle (by omega) (by omega)) (nm_r (pk_mul 2 node) (nm_r ex ⟨v, pk_le pd (hs_c (hs_g c g k) a (a + 2 ^ L)) (fun z => ?_) (fun z => ?_) rfl (by rw [cx]; exact ec) (by omega) (by omega)⟩))
    · exact nm_r (pk_m1 L) (ih (2 * node) a pd (by omega) k1 ha h1 z (fun j a1 a2 a3 a4 => H j a1 (by omega) a3 a4))
    · refine ⟨v, v, nm_r (e' := nI (pd + hs_o (hs_g c g k) a (a + 2 ^ L) - hs_c (hs_g c g k) a (a + 2 ^ L))) ?_ (nm_r (nI_1 (2 * node)) (nm_r (pk_m1 L) (ih (2 * node + 1) (a + 2 ^ L) _ (by omega) k2 k3 (by omega) (by omega) ?_)))⟩
      · rw [cx, eo, ec]; exact xq_ad (by omega)
      · intro j a1 a2 a3 a4
        have m1 := hs_cm (hs_g c g k) (a := a) (m := a + 2 ^ L) (b := j) (Nat.le_add_right _ _) a1
        have m2 := hs_cm (hs_g c g k) (a := a) (m := a + 2 ^ L) (b := j + 1) (Nat.le_add_right _ _) (by omega)
        exact H j (by omega) a2 (by omega) (by omega)
theorem xf_ev {i L E : Nat} (hL : L ≤ 5) (hi : i < 64) (hE : E + 64 = ((64 + i) / 2 ^ L + 1) * 2 ^ L) (h : (64 + i) / 2 ^ L % 2 = 0) :
    E + 2 ^ L + 64 = ((64 + i) / 2 ^ (L + 1) + 1) * 2 ^ (L + 1) ∧ E + 2 ^ L ≤ 64 ∧ ((64 + i) / 2 ^ L + 1) * 2 ^ L = 64 + E := by
  have h6 : L = 0 ∨ L = 1 ∨ L = 2 ∨ L = 3 ∨ L = 4 ∨ L = 5 := by omega
  rcases h6 with rfl | rfl | rfl | rfl | rfl | rfl <;> simp only [Nat.reducePow, Nat.reduceAdd] at hE h ⊢ <;> omega
theorem xf_od {i L E : Nat} (hL : L ≤ 5) (hi : i < 64) (hE : E + 64 = ((64 + i) / 2 ^ L + 1) * 2 ^ L) (h : ¬ (64 + i) / 2 ^ L % 2 = 0) :
    E + 64 = ((64 + i) / 2 ^ (L + 1) + 1) * 2 ^ (L + 1) := by
  have h6 : L = 0 ∨ L = 1 ∨ L = 2 ∨ L = 3 ∨ L = 4 ∨ L = 5 := by omega
  rcases h6 with rfl | rfl | rfl | rfl | rfl | rfl <;> simp only [Nat.reducePow, Nat.reduceAdd] at hE h ⊢ <;> omega
theorem xf_cr (post : Int32 → Prop) (c : Nat) (g o q : Nat → Int32) (k : Nat) (hk1 : 1 ≤ k) (hk3 : k ≤ 3) (hR : tr_R c g o q) (i : Nat) (hi : i < 64)
    (H1 : ∀ j, i < j → hs_c (hs_g c g k) (i + 1) j = 0 → 1 ≤ hs_c (hs_g c g k) (i + 1) (j + 1) → post (nI j)) (H2 : hs_c (hs_g c g k) (i + 1) 64 = 0 → post (-3)) :
    ∀ d L E : Nat, L + d = 6 → E + 64 = ((64 + i) / 2 ^ L + 1) * 2 ^ L → i < E → E ≤ 64 → hs_c (hs_g c g k) (i + 1) E = 0 →
      wX_closingRightOf_5 post (nI i) (nI k) (nI c) g o q (d + 1) (nI (1 + hs_o (hs_g c g k) (i + 1) E)) (nI L) := by
  intro d
  induction d with
  | zero =>
    intro L E h1 hE h2 h3 h4
    rw [show L = 6 from by omega] at hE
    rw [show E = 64 from by omega] at h4
    exact br_t (nI_le (a := 6) (by omega) (by omega)) (H2 h4)
  | succ d ih =>
    intro L E h1 hE h2 h3 h4
    have p := xq_p6 (m := L) (by omega)
    have dl : (64 + i) / 2 ^ L ≤ 64 + i := Nat.div_le_self _ _
    have en : (64 + nI i) >>> (nI L &&& 31) = nI ((64 + i) / 2 ^ L) := by
      rw [show (64 : Int32) = nI 64 from rfl, nI_add, xq_sr (by omega) (by omega)]
    refine br_f (nI_ge (b := 6) (by omega) (by decide)) (nm_r en ⟨by decide, pk_eq ((64 + i) / 2 ^ L % 2) 0 (fun z => ?_) (fun z => ?_) (pk_rem (d := 2) (by omega) (by decide) (by decide)) rfl (by omega) (by omega)⟩)
    · obtain ⟨q1, q2, q3⟩ := xf_ev (by omega) hi hE z
      have n1 := xq_nb q3 (by omega)
      obtain ⟨eo, ec⟩ := hR k hk1 hk3 ((64 + i) / 2 ^ L + 1) L E (Nat.succ_pos _) (by omega) q3 (by omega)
      have ex : nI k * 128 + nI ((64 + i) / 2 ^ L) + 1 = nI (k * 128 + ((64 + i) / 2 ^ L + 1)) := by
        rw [show (128 : Int32) = nI 128 from rfl, pk_mul, nI_add, nI_1, Nat.add_assoc]
      have cx : (nI (k * 128 + ((64 + i) / 2 ^ L + 1))).toNatClampNeg = k * 128 + ((64 + i) / 2 ^ L + 1) := nI_clamp (by omega)
      have v : vp_in (nI (k * 128 + ((64 + i) / 2 ^ L + 1))) 512 := vp_in_nI (by omega) (by omega)
      have b1 := hs_cle (hs_g c g k) E (E + 2 ^ L)
      have b2 := hs_ole (hs_g c g k) E (E + 2 ^ L)
      have b3 := hs_ole (hs_g c g k) (i + 1) E
      have m1 := hs_om (hs_g c g k) (a := i + 1) (m := E) (b := E + 2 ^ L) h2 (Nat.le_add_right _ _)
      have m2 := hs_cm (hs_g c g k) (a := i + 1) (m := E) (b := E + 2 ^ L) h2 (Nat.le_add_right _ _)
      refine nm_r ex ⟨v, pk_lt (hs_c (hs_g c g k) E (E + 2 ^ L)) (1 + hs_o (hs_g c g k) (i + 1) E) (fun w => ?_) (fun w => ?_) (by rw [cx]; exact ec) rfl (by omega) (by omega)⟩
      · refine ⟨v, v, nm_r (e' := nI (1 + hs_o (hs_g c g k) (i + 1) (E + 2 ^ L))) ?_ (nm_r (nI_1 L) (ih (L + 1) (E + 2 ^ L) (by omega) q1 (by omega) q2 (by omega)))⟩
        rw [cx, eo, ec, xq_ad (by omega)]
        exact congrArg nI (by omega)
      · have e1 : nI ((64 + i) / 2 ^ L) + 1 = nI ((64 + i) / 2 ^ L + 1) := nI_1 _
        rw [e1]
        refine ⟨L + 1, xf_ci _ c g o q k hk1 hk3 hR L ((64 + i) / 2 ^ L + 1) E _ (by omega) q3 (by omega) (by omega) w (fun j a1 a2 a3 a4 => ?_)⟩
        have m3 := hs_cm (hs_g c g k) (a := i + 1) (m := E) (b := j) h2 a1
        have m4 := hs_cm (hs_g c g k) (a := i + 1) (m := E) (b := j + 1) h2 (by omega)
        exact H1 j (by omega) (by omega) (by omega)
    · exact nm_r (nI_1 L) (ih (L + 1) E (by omega) (xf_od (by omega) hi hE z) h2 h3 h4)
theorem xf_closing (post : Int32 → Prop) (c : Nat) (g o q : Nat → Int32) (k : Nat) (hk1 : 1 ≤ k) (hk3 : k ≤ 3) (hR : tr_R c g o q) (i : Nat) (hi : i < 64)
    (H1 : ∀ j, i < j → hs_c (hs_g c g k) (i + 1) j = 0 → 1 ≤ hs_c (hs_g c g k) (i + 1) (j + 1) → post (nI j)) (H2 : hs_c (hs_g c g k) (i + 1) 64 = 0 → post (-3)) :
    wpX_closingRightOf post (nI c, g, o, q) (nI i) (nI k) := by
  have h := xf_cr post c g o q k hk1 hk3 hR i hi H1 H2 6 0 (i + 1) (by omega) (by simp only [Nat.pow_zero, Nat.div_one]; omega) (by omega) (by omega) (hs_cc _ _)
  rw [hs_oo] at h
  exact ⟨7, h⟩
theorem xf_op (post : Int32 → Prop) (c : Nat) (g o q : Nat → Int32) (k : Nat) (hk1 : 1 ≤ k) (hk3 : k ≤ 3) (hR : tr_R c g o q) :
    ∀ L node a pd : Nat, L ≤ 6 → node * 2 ^ L = 64 + a → a < 64 → 1 ≤ pd → pd ≤ hs_o (hs_g c g k) a (a + 2 ^ L) →
      (∀ j, a ≤ j → j < a + 2 ^ L → hs_o (hs_g c g k) (j + 1) (a + 2 ^ L) < pd → pd ≤ hs_o (hs_g c g k) j (a + 2 ^ L) → post (nI j)) →
      wX_openingInside_10 post (nI k) (nI c) g o q (L + 1) (nI node) (nI pd) (nI L) := by
  intro L
  induction L with
  | zero =>
    intro node a pd hL hN ha h1 hp H
    rw [Nat.pow_zero] at hN hp H
    rw [show node = 64 + a from by omega]
    refine br_t (nI_le (a := 0) (b := 0) (by decide) (by decide)) ?_
    rw [show nI (64 + a) - 64 = nI a from by rw [show (64 : Int32) = nI 64 from rfl, pk_sub (by omega)]; exact congrArg nI (by omega)]
    exact H a (by omega) (by omega) (by rw [hs_oo]; omega) hp
  | succ L ih =>
    intro node a pd hL hN ha h1 hp H
    obtain ⟨k1, k2, k3⟩ := tr_kid (by omega) hN ha
    have p := xq_p6 (m := L) (by omega)
    have n1 := xq_nb k1 ha
    have n2 := xq_nb k2 k3
    obtain ⟨eo, ec⟩ := hR k hk1 hk3 (2 * node + 1) L (a + 2 ^ L) (by omega) (by omega) k2 k3
    have ew : a + 2 ^ (L + 1) = a + 2 ^ L + 2 ^ L := by rw [Nat.pow_succ]; omega
    rw [ew] at hp H
    have e2 : 2 * nI node + 1 = nI (2 * node + 1) := by rw [show (2 : Int32) = nI 2 from rfl, pk_mul, nI_1]
    have ex : nI k * 128 + nI (2 * node + 1) = nI (k * 128 + (2 * node + 1)) := by rw [show (128 : Int32) = nI 128 from rfl, pk_mul, nI_add]
    have cx : (nI (k * 128 + (2 * node + 1))).toNatClampNeg = k * 128 + (2 * node + 1) := nI_clamp (by omega)
    have v : vp_in (nI (k * 128 + (2 * node + 1))) 512 := vp_in_nI (by omega) (by omega)
    have b1 := hs_cle (hs_g c g k) (a + 2 ^ L) (a + 2 ^ L + 2 ^ L)
    have b2 := hs_ole (hs_g c g k) (a + 2 ^ L) (a + 2 ^ L + 2 ^ L)
    have b3 := hs_ole (hs_g c g k) a (a + 2 ^ L + 2 ^ L)
    have mm := hs_om (hs_g c g k) (a := a) (m := a + 2 ^ L) (b := a + 2 ^ L + 2 ^ L) (Nat.le_add_right _ _) (Nat.le_add_right _ _)
    refine br_f (nI_nle (by omega) (by omega)) (nm_r e2 (nm_r ex ⟨v, pk_le pd (hs_o (hs_g c g k) (a + 2 ^ L) (a + 2 ^ L + 2 ^ L)) (fun z => ?_) (fun z => ?_) rfl (by rw [cx]; exact eo) (by omega) (by omega)⟩))
    · exact nm_r (pk_m1 L) (ih (2 * node + 1) (a + 2 ^ L) pd (by omega) k2 k3 h1 z (fun j a1 a2 a3 a4 => H j (by omega) a2 a3 a4))
    · refine ⟨v, v, nm_r (e' := nI (pd + hs_c (hs_g c g k) (a + 2 ^ L) (a + 2 ^ L + 2 ^ L) - hs_o (hs_g c g k) (a + 2 ^ L) (a + 2 ^ L + 2 ^ L))) ?_ (nm_r (pk_m1 (2 * node)) (nm_r (pk_m1 L) (ih (2 * node) a _ (by omega) k1 ha (by omega) (by omega) ?_)))⟩
      · rw [cx, eo, ec]; exact xq_ad (by omega)
      · intro j a1 a2 a3 a4
        have m1 := hs_om (hs_g c g k) (a := j) (m := a + 2 ^ L) (b := a + 2 ^ L + 2 ^ L) (by omega) (Nat.le_add_right _ _)
        have m2 := hs_om (hs_g c g k) (a := j + 1) (m := a + 2 ^ L) (b := a + 2 ^ L + 2 ^ L) (by omega) (Nat.le_add_right _ _)
        exact H j a1 (by omega) (by omega) (by omega)
theorem xf_od2 {i L B : Nat} (hL : L ≤ 5) (hi : i < 64) (hB : B + 64 = (64 + i) / 2 ^ L * 2 ^ L) (h : (64 + i) / 2 ^ L % 2 = 1) :
    (B - 2 ^ L) + 64 = (64 + i) / 2 ^ (L + 1) * 2 ^ (L + 1) ∧ 2 ^ L ≤ B ∧ ((64 + i) / 2 ^ L - 1) * 2 ^ L = 64 + (B - 2 ^ L) := by
  have h6 : L = 0 ∨ L = 1 ∨ L = 2 ∨ L = 3 ∨ L = 4 ∨ L = 5 := by omega
  rcases h6 with rfl | rfl | rfl | rfl | rfl | rfl <;> simp only [Nat.reducePow, Nat.reduceAdd] at hB h ⊢ <;> omega
theorem xf_ev2 {i L B : Nat} (hL : L ≤ 5) (hi : i < 64) (hB : B + 64 = (64 + i) / 2 ^ L * 2 ^ L) (h : ¬ (64 + i) / 2 ^ L % 2 = 1) :
    B + 64 = (64 + i) / 2 ^ (L + 1) * 2 ^ (L + 1) := by
  have h6 : L = 0 ∨ L = 1 ∨ L = 2 ∨ L = 3 ∨ L = 4 ∨ L = 5 := by omega
  rcases h6 with rfl | rfl | rfl | rfl | rfl | rfl <;> simp only [Nat.reducePow, Nat.reduceAdd] at hB h ⊢ <;> omega
theorem xf_ol (post : Int32 → Prop) (c : Nat) (g o q : Nat → Int32) (k : Nat) (hk1 : 1 ≤ k) (hk3 : k ≤ 3) (hR : tr_R c g o q) (i : Nat) (hi : i < 64)
    (H1 : ∀ j, j < i → hs_o (hs_g c g k) (j + 1) i = 0 → 1 ≤ hs_o (hs_g c g k) j i → post (nI j)) (H2 : hs_o (hs_g c g k) 0 i = 0 → post (-3)) :
    ∀ d L B : Nat, L + d = 6 → B + 64 = (64 + i) / 2 ^ L * 2 ^ L → B ≤ i → hs_o (hs_g c g k) B i = 0 →
      wX_openingLeftOf_5 post (nI i) (nI k) (nI c) g o q (d + 1) (nI (1 + hs_c (hs_g c g k) B i)) (nI L) := by
  intro d
  induction d with
  | zero =>
    intro L B h1 hB h2 h4
    rw [show L = 6 from by omega] at hB
    rw [show B = 0 from by omega] at h4
    exact br_t (nI_le (a := 6) (by omega) (by omega)) (H2 h4)
  | succ d ih =>
    intro L B h1 hB h2 h4
    have p := xq_p6 (m := L) (by omega)
    have dl : (64 + i) / 2 ^ L ≤ 64 + i := Nat.div_le_self _ _
    have en : (64 + nI i) >>> (nI L &&& 31) = nI ((64 + i) / 2 ^ L) := by
      rw [show (64 : Int32) = nI 64 from rfl, nI_add, xq_sr (by omega) (by omega)]
    refine br_f (nI_ge (b := 6) (by omega) (by decide)) (nm_r en ⟨by decide, pk_eq ((64 + i) / 2 ^ L % 2) 1 (fun z => ?_) (fun z => ?_) (pk_rem (d := 2) (by omega) (by decide) (by decide)) rfl (by omega) (by omega)⟩)
    · obtain ⟨q1, q2, q3⟩ := xf_od2 (by omega) hi hB z
      have n0 := xq_nz q3
      have n1 := xq_nb q3 (by omega)
      obtain ⟨eo, ec⟩ := hR k hk1 hk3 ((64 + i) / 2 ^ L - 1) L (B - 2 ^ L) n0 (by omega) q3 (by omega)
      rw [show B - 2 ^ L + 2 ^ L = B from by omega] at eo ec
      have ex : nI k * 128 + nI ((64 + i) / 2 ^ L) - 1 = nI (k * 128 + ((64 + i) / 2 ^ L - 1)) := by
        rw [show (128 : Int32) = nI 128 from rfl, show (1 : Int32) = nI 1 from rfl, pk_mul, nI_add, pk_sub (by omega)]
        exact congrArg nI (by omega)
      have cx : (nI (k * 128 + ((64 + i) / 2 ^ L - 1))).toNatClampNeg = k * 128 + ((64 + i) / 2 ^ L - 1) := nI_clamp (by omega)
      have v : vp_in (nI (k * 128 + ((64 + i) / 2 ^ L - 1))) 512 := vp_in_nI (by omega) (by omega)
      have b1 := hs_cle (hs_g c g k) (B - 2 ^ L) B
      have b2 := hs_ole (hs_g c g k) (B - 2 ^ L) B
      have b3 := hs_cle (hs_g c g k) B i
      have m1 := hs_om (hs_g c g k) (a := B - 2 ^ L) (m := B) (b := i) (by omega) h2
      have m2 := hs_cm (hs_g c g k) (a := B - 2 ^ L) (m := B) (b := i) (by omega) h2
      refine nm_r ex ⟨v, pk_lt (hs_o (hs_g c g k) (B - 2 ^ L) B) (1 + hs_c (hs_g c g k) B i) (fun w => ?_) (fun w => ?_) (by rw [cx]; exact eo) rfl (by omega) (by omega)⟩
      · refine ⟨v, v, nm_r (e' := nI (1 + hs_c (hs_g c g k) (B - 2 ^ L) i)) ?_ (nm_r (nI_1 L) (ih (L + 1) (B - 2 ^ L) (by omega) q1 (by omega) (by omega)))⟩
        rw [cx, eo, ec, xq_ad (by omega)]
        exact congrArg nI (by omega)
      · have e1 : nI ((64 + i) / 2 ^ L) - 1 = nI ((64 + i) / 2 ^ L - 1) := by
          rw [show (1 : Int32) = nI 1 from rfl, pk_sub (by omega)]
        rw [e1]
        refine ⟨L + 1, xf_op _ c g o q k hk1 hk3 hR L ((64 + i) / 2 ^ L - 1) (B - 2 ^ L) _ (by omega) q3 (by omega) (by omega) ?_ (fun j a1 a2 a3 a4 => ?_)⟩
        · rw [show B - 2 ^ L + 2 ^ L = B from by omega]; exact w
        · rw [show B - 2 ^ L + 2 ^ L = B from by omega] at a2 a3 a4
          have m3 := hs_om (hs_g c g k) (a := j) (m := B) (b := i) (by omega) h2
          have m4 := hs_om (hs_g c g k) (a := j + 1) (m := B) (b := i) (by omega) h2
          exact H1 j (by omega) (by omega) (by omega)
    · exact nm_r (nI_1 L) (ih (L + 1) B (by omega) (xf_ev2 (by omega) hi hB z) h2 h4)
theorem xf_opening (post : Int32 → Prop) (c : Nat) (g o q : Nat → Int32) (k : Nat) (hk1 : 1 ≤ k) (hk3 : k ≤ 3) (hR : tr_R c g o q) (i : Nat) {x0 x1 : Int32} (e0 : x0 = nI i) (e1 : x1 = nI k) (hi : i < 64)
    (H1 : ∀ j, j < i → hs_o (hs_g c g k) (j + 1) i = 0 → 1 ≤ hs_o (hs_g c g k) j i → post (nI j)) (H2 : hs_o (hs_g c g k) 0 i = 0 → post (-3)) :
    wpX_openingLeftOf post (nI c, g, o, q) x0 x1 := by
  subst e0 e1
  have h := xf_ol post c g o q k hk1 hk3 hR i hi H1 H2 6 0 i (by omega) (by simp only [Nat.pow_zero, Nat.div_one]; omega) (by omega) (hs_oo _ _)
  rw [hs_cc] at h
  exact ⟨7, h⟩
