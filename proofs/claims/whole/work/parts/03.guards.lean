/-! the tests at the head of a call, both sides -/
theorem gd_st (c : Nat) (hc : c ≤ 60) (g o q p : Nat → Int32) (p0 p1 : Int32) :
    (∃ a l : Nat, a + l ≤ c ∧ p0 = nI a ∧ p1 = nI l ∧ (∀ post : Int32 → Prop, post 1 → wpX_isStretch post (nI c, g, o, q) p0 p1) ∧ (∀ post : Int32 → Prop, post 1 → wpY_isStretch post (nI c, g, p) p0 p1)) ∨
    ((∀ post : Int32 → Prop, post 0 → wpX_isStretch post (nI c, g, o, q) p0 p1) ∧ (∀ post : Int32 → Prop, post 0 → wpY_isStretch post (nI c, g, p) p0 p1)) := by
  by_cases h0 : p0 < 0
  · exact Or.inr ⟨fun post hp => br_t h0 hp, fun post hp => br_t h0 hp⟩
  · by_cases h1 : p1 < 0
    · exact Or.inr ⟨fun post hp => br_f h0 (br_c (fun _ => hp) (fun _ => br_t h1 hp)), fun post hp => br_f h0 (br_t h1 hp)⟩
    · obtain ⟨a, ha, rfl⟩ := nI_of h0
      obtain ⟨l, hl, rfl⟩ := nI_of h1
      by_cases h2 : nI c < nI a
      · exact Or.inr ⟨fun post hp => br_f h0 (br_t h2 hp), fun post hp => br_f h0 (br_f h1 (br_t h2 hp))⟩
      · have ac : a ≤ c := by rw [nI_ltI (by omega) ha] at h2; omega
        have e : nI c - nI a = nI (c - a) := pk_sub ac
        by_cases h3 : nI c - nI a < nI l
        · exact Or.inr ⟨fun post hp => br_f h0 (br_f h2 (br_f h1 (br_t h3 hp))), fun post hp => br_f h0 (br_f h1 (br_f h2 (br_t h3 hp)))⟩
        · have lc : l ≤ c - a := by rw [e, nI_ltI (by omega) hl] at h3; omega
          exact Or.inl ⟨a, l, by omega, rfl, rfl, fun post hp => br_f h0 (br_f h2 (br_f h1 (br_f h3 hp))), fun post hp => br_f h0 (br_f h1 (br_f h2 (br_f h3 hp)))⟩
theorem gd_ys (c : Nat) (hc : c ≤ 60) (g p : Nat → Int32) (a l : Nat) (h : a + l ≤ c) (post : Int32 → Prop) (hp : post 1) : wpY_isStretch post (nI c, g, p) (nI a) (nI l) := by
  refine br_f (nI_pos (by omega)) (br_f (nI_pos (by omega)) (br_f (nI_nlt (by omega) (by omega)) (br_f ?_ hp)))
  rw [pk_sub (by omega)]
  exact nI_nlt (by omega) (by omega)
theorem gd_po (c : Nat) (hc : c ≤ 60) (g o q p : Nat → Int32) (p0 : Int32) :
    (∃ a : Nat, a < c ∧ p0 = nI a ∧ (∀ post : Int32 → Prop, post 1 → wpX_isPosition post (nI c, g, o, q) p0) ∧ (∀ post : Int32 → Prop, post 1 → wpY_isPlace post (nI c, g, p) p0)) ∨
    ((∀ post : Int32 → Prop, post 0 → wpX_isPosition post (nI c, g, o, q) p0) ∧ (∀ post : Int32 → Prop, post 0 → wpY_isPlace post (nI c, g, p) p0)) := by
  by_cases h0 : p0 < 0
  · exact Or.inr ⟨fun post hp => br_t h0 hp, fun post hp => br_t h0 hp⟩
  · obtain ⟨a, ha, rfl⟩ := nI_of h0
    by_cases h2 : nI c ≤ nI a
    · exact Or.inr ⟨fun post hp => br_f h0 (br_t h2 hp), fun post hp => br_f h0 (br_t h2 hp)⟩
    · have ac : a < c := by rw [nI_leI (by omega) ha] at h2; omega
      exact Or.inl ⟨a, ac, rfl, fun post hp => br_f h0 (br_f h2 hp), fun post hp => br_f h0 (br_f h2 hp)⟩
theorem gd_k (x : Int32) : (∃ k : Nat, 1 ≤ k ∧ k ≤ 3 ∧ x = nI k ∧ ¬ x < 1 ∧ ¬ 3 < x ∧ x ≤ 3) ∨ x < 1 ∨ (¬ x < 1 ∧ 3 < x ∧ ¬ x ≤ 3) := by
  by_cases h1 : x < 1
  · exact Or.inr (Or.inl h1)
  · have h0 : ¬ x < 0 := by
      rw [Int32.lt_iff_toInt_lt] at h1 ⊢
      have e0 : (0 : Int32).toInt = 0 := by decide
      have e1 : (1 : Int32).toInt = 1 := by decide
      omega
    obtain ⟨k, hk, rfl⟩ := nI_of h0
    have g1 : 1 ≤ k := by
      have : ¬ nI k < nI 1 := h1
      rw [nI_ltI hk (by omega)] at this; omega
    by_cases h3 : k ≤ 3
    · exact Or.inl ⟨k, g1, h3, rfl, h1, nI_nlt (a := 3) (b := k) h3 (by decide), nI_le (b := 3) h3 (by decide)⟩
    · exact Or.inr (Or.inr ⟨h1, nI_lt (a := 3) (by omega) hk, nI_ge (a := 3) (by omega) hk⟩)
