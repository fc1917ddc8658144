/-! the cut at a position, and the count of pairs across it -/
def xc_M (g : Nat → Int32) (k b m : Nat) : Prop := (g b = nI (k + 3) ∧ m = b + 1) ∨ (¬ g b = nI (k + 3) ∧ m = b)
theorem xc_eq {c : Nat} {g : Nat → Int32} {k b m : Nat} (hk3 : k ≤ 3) (hb : b < c) (hm : xc_M g k b m) (i : Nat) :
    (∃ j, b + 1 ≤ j ∧ j < c ∧ hs_pr (hs_g c g k) i j) ↔ (∃ j, m ≤ j ∧ j < c ∧ hs_pr (hs_g c g k) i j) := by
  rcases hm with ⟨h, rfl⟩ | ⟨h, rfl⟩
  · exact Iff.rfl
  · constructor
    · rintro ⟨j, a1, a2, a3⟩
      exact ⟨j, by omega, a2, a3⟩
    · rintro ⟨j, a1, a2, a3⟩
      refine ⟨j, ?_, a2, a3⟩
      by_cases e : j = m
      · subst e; exact absurd ((hs_g2 hk3 hb).mp a3.2.2.1) h
      · omega
theorem xc_lt {c : Nat} {g : Nat → Int32} {k b m : Nat} (hk3 : k ≤ 3) (hb : b < c) (hm : xc_M g k b m) {i j : Nat} (h : hs_pr (hs_g c g k) i j) (hi : i < m) : i < b := by
  rcases hm with ⟨z, rfl⟩ | ⟨z, rfl⟩
  · by_cases e : i = b
    · subst e
      have a := h.2.1
      rw [(hs_g2 hk3 hb).mpr z] at a
      exact absurd a (by decide)
    · omega
  · exact hi
theorem xc_0 {c : Nat} {g : Nat → Int32} {k b m : Nat} (hk3 : k ≤ 3) (hb : b < c) (hm : xc_M g k b m) : hs_o (hs_g c g k) b m = 0 := by
  rcases hm with ⟨z, rfl⟩ | ⟨z, rfl⟩
  · have a := (hs_g2 hk3 hb).mpr z
    rcases hs_1 (hs_g c g k) b with ⟨x, _⟩ | ⟨_, x, _⟩ | ⟨_, x, _⟩
    · rw [a] at x; exact absurd x (by decide)
    · exact x
    · exact absurd a x
  · exact hs_oo _ _
theorem xc_cut (post : Int32 → Prop) (c : Nat) (hc : c ≤ 60) (g o q : Nat → Int32) (k b : Nat) (hb : b < c) (H : ∀ m, xc_M g k b m → post (nI m)) : wpX_cutAt post (nI c, g, o, q) (nI b) (nI k) := by
  have cb : (nI b).toNatClampNeg = b := nI_clamp (by omega)
  have e3 : nI k + 3 = nI (k + 3) := nI_add k 3
  refine ⟨vp_in_nI (by omega) (by omega), ?_⟩
  by_cases h : g b = nI (k + 3)
  · refine br_t (by rw [cb, e3]; exact h) ?_
    rw [nI_1]
    exact H (b + 1) (Or.inl ⟨h, rfl⟩)
  · exact br_f (by rw [cb, e3]; exact h) (H b (Or.inr ⟨h, rfl⟩))
/-- how many pairs with an opening from i on lie across m -/
def xc_n (c : Nat) (g : Nat → Int32) (k m i : Nat) : Nat := if hs_c (hs_g c g k) m c ≤ hs_o (hs_g c g k) i m then hs_c (hs_g c g k) m c else hs_o (hs_g c g k) i m
theorem xc_pa (post : Int32 → Prop) (c : Nat) (hc : c ≤ 60) (g o q : Nat → Int32) (k : Nat) (hk1 : 1 ≤ k) (hk3 : k ≤ 3) (hR : tr_R c g o q) (m : Nat) (hm : m ≤ c) (H : post (nI (xc_n c g k m 0))) : wpX_pairsAcross post (nI c, g, o, q) (nI m) (nI k) := by
  have b1 := hs_ole (hs_g c g k) 0 m
  have b2 := hs_cle (hs_g c g k) m c
  unfold wpX_pairsAcross
  dsimp only
  refine xq_opensIn _ c g o q k hk1 hk3 hR (f := 0) (e := m) (by omega) (by omega) rfl rfl ?_
  refine xq_closesIn _ c g o q k hk1 hk3 hR (f := m) (e := c) hm hc rfl rfl ?_
  exact tr_sm (hs_o (hs_g c g k) 0 m) (hs_c (hs_g c g k) m c) rfl rfl (by omega) (by omega) H
theorem xc_st {c : Nat} {g : Nat → Int32} {k i m : Nat} (him : i < m) (hm : m ≤ c) : ((∃ j, m ≤ j ∧ j < c ∧ hs_pr (hs_g c g k) i j) ∧ xc_n c g k m i = xc_n c g k m (i + 1) + 1) ∨ ((¬ ∃ j, m ≤ j ∧ j < c ∧ hs_pr (hs_g c g k) i j) ∧ xc_n c g k m i = xc_n c g k m (i + 1)) := by
  unfold xc_n
  rcases hs_crs (hs_g c g k) him hm with ⟨x, y, z⟩ | ⟨x, y⟩
  · exact Or.inl ⟨x, by clear x; split <;> split <;> omega⟩
  · exact Or.inr ⟨x, by clear x; split <;> split <;> omega⟩
theorem yq_d25 (post : Int32 → Prop) (c : Nat) (hc : c ≤ 60) (g p : Nat → Int32) (k : Nat) (hk3 : k ≤ 3) (b m : Nat) (hb : b < c) (hM : xc_M g k b m) (hbm : b ≤ m) (hmc : m ≤ c) (H : post (nI (xc_n c g k m 0))) :
    ∀ d i n : Nat, i + d = b → n + xc_n c g k m i = xc_n c g k m 0 → wY_depth_25 post (nI b) (nI k) (nI c) g p (d + 1) (nI n) (nI i) := by
  intro d
  induction d with
  | zero =>
    intro i n h1 h2
    have z : xc_n c g k m i = 0 := by
      rw [show i = b from by omega]
      unfold xc_n
      rw [xc_0 hk3 hb hM]
      split <;> omega
    rw [z, Nat.add_zero] at h2
    rw [← h2] at H
    exact br_t (nI_le (by omega) (by omega)) H
  | succ d ih =>
    intro i n h1 h2
    have st := xc_st (c := c) (g := g) (k := k) (i := i) (m := m) (by omega) hmc
    refine br_f (nI_ge (by omega) (by omega)) (nm_r (nI_1 b) ⟨c - (b + 1) + 1, yq_d36 post _ c hc g p k hk3 b i n (by omega) (fun w => ih (i + 1) (n + 1) (by omega) ?_) (fun w => ih (i + 1) n (by omega) ?_) (c - (b + 1)) (b + 1) n (by omega) (by omega) (Or.inl ⟨rfl, fun w => ?_⟩)⟩)
    · rw [xc_eq hk3 hb hM] at w
      rcases st with ⟨_, y⟩ | ⟨x, _⟩
      · omega
      · exact absurd w x
    · rw [xc_eq hk3 hb hM] at w
      rcases st with ⟨x, _⟩ | ⟨_, y⟩
      · exact absurd x w
      · omega
    · obtain ⟨j, a1, a2, _⟩ := w
      omega
