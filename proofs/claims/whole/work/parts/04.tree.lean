/-! the tree: what each node holds, and that refreshTree makes it so -/
def tr_A (c : Nat) (g : Nat → Int32) (k m : Nat) (o q : Nat → Int32) : Prop :=
  ∀ node L a : Nat, m < node → L ≤ 6 → node * 2 ^ L = 64 + a → a < 64 →
    o (k * 128 + node) = nI (hs_o (hs_g c g k) a (a + 2 ^ L)) ∧ q (k * 128 + node) = nI (hs_c (hs_g c g k) a (a + 2 ^ L))
def tr_R (c : Nat) (g o q : Nat → Int32) : Prop := ∀ k, 1 ≤ k → k ≤ 3 → tr_A c g k 0 o q
def tr_F (k : Nat) (o q o' q' : Nat → Int32) : Prop := ∀ i, (i < k * 128 ∨ k * 128 + 128 ≤ i) → o' i = o i ∧ q' i = q i
theorem tr_ex : ∀ m, m < 128 → 1 ≤ m → ∃ L : Fin 7, 64 ≤ m * 2 ^ L.val ∧ m * 2 ^ L.val < 128 := by decide +kernel
theorem tr_unF : ∀ m : Fin 128, ∀ L M : Fin 7, (64 ≤ m.val * 2 ^ L.val ∧ m.val * 2 ^ L.val < 128 ∧ 64 ≤ m.val * 2 ^ M.val ∧ m.val * 2 ^ M.val < 128) → L.val = M.val := by decide +kernel
theorem tr_un (m : Nat) (hm : m < 128) (L : Nat) (hL : L < 7) (M : Nat) (hM : M < 7) (a : 64 ≤ m * 2 ^ L) (b : m * 2 ^ L < 128) (c : 64 ≤ m * 2 ^ M) (d : m * 2 ^ M < 128) : L = M := tr_unF ⟨m, hm⟩ ⟨L, hL⟩ ⟨M, hM⟩ ⟨a, b, c, d⟩
theorem tr_kid {m L a : Nat} (hL : L ≤ 5) (h : m * 2 ^ (L + 1) = 64 + a) (ha : a < 64) : (2 * m) * 2 ^ L = 64 + a ∧ (2 * m + 1) * 2 ^ L = 64 + (a + 2 ^ L) ∧ a + 2 ^ L < 64 := by
  have h6 : L = 0 ∨ L = 1 ∨ L = 2 ∨ L = 3 ∨ L = 4 ∨ L = 5 := by omega
  rcases h6 with rfl | rfl | rfl | rfl | rfl | rfl <;> simp only [Nat.reducePow, Nat.reduceAdd] at h ⊢ <;> omega
theorem tr_sm {post : Int32 → Prop} {x y : Int32} (A D : Nat) (hx : x = nI A) (hy : y = nI D) (hA : A < 2 ^ 31) (hD : D < 2 ^ 31) (h : post (nI (if D ≤ A then D else A))) : wpX_smaller post x y := by
  refine pk_le D A (fun z => ?_) (fun z => ?_) hy hx hD hA
  · rw [if_pos z] at h; rw [hy]; exact h
  · rw [if_neg (by omega)] at h; rw [hx]; exact h
theorem tr_node {post : SX → Prop} {c : Nat} {g o q : Nat → Int32} {p0 p1 p2 : Int32} (i0 i1 i2 A B C D : Nat) (e0 : p0 = nI i0) (e1 : p1 = nI i1) (e2 : p2 = nI i2)
    (h0 : i0 < 512) (h1 : i1 < 512) (h2 : i2 < 512) (eA : o i1 = nI A) (eB : o i2 = nI B) (eC : q i1 = nI C) (eD : q i2 = nI D)
    (bA : A ≤ 64) (bB : B ≤ 64) (bC : C ≤ 64) (bD : D ≤ 64)
    (H : post (nI c, g, upd o i0 (nI (B + (A - D))), upd q i0 (nI (C + (D - A))))) : wpX_refreshNode post (nI c, g, o, q) p0 p1 p2 := by
  subst e0 e1 e2
  have c0 : (nI i0).toNatClampNeg = i0 := nI_clamp (by omega)
  have c1 : (nI i1).toNatClampNeg = i1 := nI_clamp (by omega)
  have c2 : (nI i2).toNatClampNeg = i2 := nI_clamp (by omega)
  have v0 : vp_in (nI i0) 512 := vp_in_nI h0 (by omega)
  have v1 : vp_in (nI i1) 512 := vp_in_nI h1 (by omega)
  have v2 : vp_in (nI i2) 512 := vp_in_nI h2 (by omega)
  simp only [wpX_refreshNode, c0, c1, c2, eA, eB, eC, eD]
  refine ⟨v1, v2, tr_sm A D rfl rfl (by omega) (by omega) ⟨v1, v2, v0, nm_r ?_ ⟨v1, v2, v0, nm_r ?_ H⟩⟩⟩
  · rw [nI_add, pk_sub (by split <;> omega)]
    exact congrArg (fun z => upd o i0 (nI z)) (by split <;> omega)
  · rw [nI_add, pk_sub (by split <;> omega)]
    exact congrArg (fun z => upd q i0 (nI z)) (by split <;> omega)
theorem tr_96 (post : SX → Prop) (J2 : Int32 → Int32 → (Nat → Int32) → (Nat → Int32) → (Nat → Int32) → Prop) (c : Nat) (g : Nat → Int32) (k : Nat) (hk : k ≤ 3) :
    ∀ (m : Nat) (o q : Nat → Int32), m ≤ 63 → tr_A c g k m o q →
      (∀ o' q', tr_A c g k 0 o' q' → tr_F k o q o' q' → J2 (nI (k + 1)) (nI c) g o' q') →
      wX_refreshTree_96 post J2 (nI k) (nI (k * 128)) (m + 1) (nI m) (nI c) g o q := by
  intro m
  induction m with
  | zero =>
    intro o q _ hA H
    exact br_t (nI_lt (a := 0) (b := 1) (by decide) (by decide)) (nm_r (nI_1 k) (H o q hA (fun i _ => ⟨rfl, rfl⟩)))
  | succ m ih =>
    intro o q hm hA H
    obtain ⟨⟨L0, h7⟩, e1, e2⟩ := tr_ex (m + 1) (by omega) (by omega)
    dsimp only at e1 e2
    have hL : L0 ≠ 0 := by
      intro z
      rw [z] at e1
      omega
    obtain ⟨L, rfl⟩ : ∃ L, L0 = L + 1 := ⟨L0 - 1, by omega⟩
    obtain ⟨a, ea⟩ : ∃ a, (m + 1) * 2 ^ (L + 1) = 64 + a := ⟨(m + 1) * 2 ^ (L + 1) - 64, by omega⟩
    have ha : a < 64 := by omega
    obtain ⟨k1, k2, k3⟩ := tr_kid (by omega) ea ha
    obtain ⟨oA, cA⟩ := hA (2 * (m + 1)) L a (by omega) (by omega) k1 ha
    obtain ⟨oB, cB⟩ := hA (2 * (m + 1) + 1) L (a + 2 ^ L) (by omega) (by omega) k2 k3
    have b1 := hs_ole (hs_g c g k) a (a + 2 ^ L)
    have b2 := hs_cle (hs_g c g k) a (a + 2 ^ L)
    have b3 := hs_ole (hs_g c g k) (a + 2 ^ L) (a + 2 ^ L + 2 ^ L)
    have b4 := hs_cle (hs_g c g k) (a + 2 ^ L) (a + 2 ^ L + 2 ^ L)
    have x0 : nI (k * 128) + nI (m + 1) = nI (k * 128 + (m + 1)) := nI_add _ _
    have x1 : nI (k * 128) + 2 * nI (m + 1) = nI (k * 128 + 2 * (m + 1)) := by
      rw [show (2 : Int32) = nI 2 from rfl, pk_mul, nI_add]
    have x2 : nI (k * 128) + 2 * nI (m + 1) + 1 = nI (k * 128 + (2 * (m + 1) + 1)) := by
      rw [x1, nI_1]; rfl
    refine br_f (nI_nlt (a := m + 1) (b := 1) (by omega) (by omega)) (tr_node _ _ _ _ _ _ _ x0 x1 x2 (by omega) (by omega) (by omega) oA oB cA cB (by omega) (by omega) (by omega) (by omega) (nm_r (pk_m1 m) (ih _ _ (by omega) ?_ ?_)))
    · intro node L' a' h1 h2 h3 h4
      by_cases e : node = m + 1
      · subst e
        have eL : L' = L + 1 := tr_un (m + 1) (by omega) L' (by omega) (L + 1) (by omega) (by omega) (by omega) e1 e2
        subst eL
        have eA : a' = a := by omega
        subst eA
        rw [pk_us, pk_us, show a' + 2 ^ (L + 1) = a' + 2 ^ L + 2 ^ L from by rw [Nat.pow_succ]; omega]
        rw [hs_om (hs_g c g k) (a := a') (m := a' + 2 ^ L) (b := a' + 2 ^ L + 2 ^ L) (Nat.le_add_right _ _) (Nat.le_add_right _ _), hs_cm (hs_g c g k) (a := a') (m := a' + 2 ^ L) (b := a' + 2 ^ L + 2 ^ L) (Nat.le_add_right _ _) (Nat.le_add_right _ _)]
        exact ⟨rfl, rfl⟩
      · rw [pk_un (by omega), pk_un (by omega)]
        exact hA node L' a' (by omega) h2 h3 h4
    · intro o' q' ha' hf
      refine H o' q' ha' (fun i hi => ?_)
      obtain ⟨x, y⟩ := hf i hi
      rw [x, y, pk_un (by omega), pk_un (by omega)]
      exact ⟨rfl, rfl⟩
theorem tr_62 (post : SX → Prop) (J2 : Int32 → Int32 → (Nat → Int32) → (Nat → Int32) → (Nat → Int32) → Prop) (J15 : Int32 → (Nat → Int32) → (Nat → Int32) → (Nat → Int32) → Prop)
    (k i A C : Nat) (z0 z : Int32) (cc g o q : Nat → Int32) (f : Int32) (hk : k ≤ 3) (hi : i < 64) (hz : z = nI A) (hC : (z0 = nI (k + 3) ∧ C = 1) ∨ (¬ z0 = nI (k + 3) ∧ C = 0))
    (H : J15 (nI (i + 1)) g (upd o (k * 128 + (64 + i)) (nI A)) (upd q (k * 128 + (64 + i)) (nI C))) :
    wX_refreshTree_62 post J2 J15 (nI k) (nI (k * 128)) (nI i) z0 z (nI (k * 128) + 64 + nI i) f g o q := by
  have e : nI (k * 128) + 64 + nI i = nI (k * 128 + (64 + i)) := by
    rw [show (64 : Int32) = nI 64 from rfl, nI_add, nI_add, Nat.add_assoc]
  have ec : (nI (k * 128) + 64 + nI i).toNatClampNeg = k * 128 + (64 + i) := by rw [e]; exact nI_clamp (by omega)
  have v : vp_in (nI (k * 128) + 64 + nI i) 512 := by rw [e]; exact vp_in_nI (by omega) (by omega)
  refine ⟨v, nm_r (by rw [ec, hz]) ?_⟩
  have e3 : nI k + 3 = nI (k + 3) := nI_add k 3
  rcases hC with ⟨x, rfl⟩ | ⟨x, rfl⟩
  · exact br_t (by rw [e3]; exact x) ⟨v, nm_r (by rw [ec]; rfl) (nm_r (nI_1 i) H)⟩
  · exact br_f (by rw [e3]; exact x) ⟨v, nm_r (by rw [ec]; rfl) (nm_r (nI_1 i) H)⟩
theorem tr_39 (post : SX → Prop) (J2 : Int32 → Int32 → (Nat → Int32) → (Nat → Int32) → (Nat → Int32) → Prop) (J15 : Int32 → (Nat → Int32) → (Nat → Int32) → (Nat → Int32) → Prop)
    (c k i : Nat) (z0 : Int32) (g o q : Nat → Int32) (f : Int32) (hk : k ≤ 3) (hi : i < 64) (h1 : z0 = nI k ↔ hs_g c g k i = 1) (h2 : z0 = nI (k + 3) ↔ hs_g c g k i = -1)
    (H : J15 (nI (i + 1)) g (upd o (k * 128 + (64 + i)) (nI (hs_o (hs_g c g k) i (i + 1)))) (upd q (k * 128 + (64 + i)) (nI (hs_c (hs_g c g k) i (i + 1))))) :
    wX_refreshTree_39 post J2 J15 (nI k) (nI (k * 128)) (nI i) z0 f g o q := by
  rcases hs_1 (hs_g c g k) i with ⟨a, b, d⟩ | ⟨a, b, d⟩ | ⟨a, a', b, d⟩
  · have n : ¬ z0 = nI (k + 3) := fun z => by rw [h2.mp z] at a; exact absurd a (by decide)
    exact br_t (h1.mpr a) (tr_62 post J2 J15 k i (hs_o (hs_g c g k) i (i + 1)) (hs_c (hs_g c g k) i (i + 1)) z0 1 g g o q f hk hi (by rw [b]; rfl) (Or.inr ⟨n, d⟩) H)
  · have n : ¬ z0 = nI k := fun z => by rw [h1.mp z] at a; exact absurd a (by decide)
    exact br_f n (tr_62 post J2 J15 k i (hs_o (hs_g c g k) i (i + 1)) (hs_c (hs_g c g k) i (i + 1)) z0 0 g g o q f hk hi (by rw [b]; rfl) (Or.inl ⟨h2.mpr a, d⟩) H)
  · have n : ¬ z0 = nI k := fun z => a (h1.mp z)
    have n2 : ¬ z0 = nI (k + 3) := fun z => a' (h2.mp z)
    exact br_f n (tr_62 post J2 J15 k i (hs_o (hs_g c g k) i (i + 1)) (hs_c (hs_g c g k) i (i + 1)) z0 0 g g o q f hk hi (by rw [b]; rfl) (Or.inr ⟨n2, d⟩) H)
theorem tr_15 (post : SX → Prop) (J2 : Int32 → Int32 → (Nat → Int32) → (Nat → Int32) → (Nat → Int32) → Prop) (c : Nat) (hc : c ≤ 60) (g : Nat → Int32) (k : Nat) (hk0 : 1 ≤ k) (hk : k ≤ 3) :
    ∀ (d i : Nat) (o q : Nat → Int32), i + d = 64 →
      (∀ j, j < i → o (k * 128 + (64 + j)) = nI (hs_o (hs_g c g k) j (j + 1)) ∧ q (k * 128 + (64 + j)) = nI (hs_c (hs_g c g k) j (j + 1))) →
      (∀ o' q', tr_A c g k 0 o' q' → tr_F k o q o' q' → J2 (nI (k + 1)) (nI c) g o' q') →
      wX_refreshTree_15 post J2 (nI k) (nI (k * 128)) (nI c) (d + 1) (nI i) g o q := by
  intro d
  induction d with
  | zero =>
    intro i o q hi hl H
    refine br_t (nI_le (a := 64) (b := i) (by omega) (by omega)) ⟨64, tr_96 post J2 c g k hk 63 o q (by omega) ?_ H⟩
    intro node L a h1 h2 h3 h4
    have hL : L = 0 := by
      cases L with
      | zero => rfl
      | succ L =>
        exfalso
        rw [Nat.pow_succ] at h3
        have : node * 1 ≤ node * 2 ^ L := Nat.mul_le_mul_left node Nat.one_le_two_pow
        have e : node * (2 ^ L * 2) = 2 * (node * 2 ^ L) := by rw [← Nat.mul_assoc, Nat.mul_comm]
        omega
    subst hL
    have en : node = 64 + a := by simpa using h3
    rw [en]
    exact hl a (by omega)
  | succ d ih =>
    intro i o q hi hl H
    have J : ∀ z0 : Int32, (z0 = nI k ↔ hs_g c g k i = 1) → (z0 = nI (k + 3) ↔ hs_g c g k i = -1) → wX_refreshTree_39 post J2 (wX_refreshTree_15 post J2 (nI k) (nI (k * 128)) (nI c) (d + 1)) (nI k) (nI (k * 128)) (nI i) z0 (nI c) g o q := by
      intro z0 h1 h2
      refine tr_39 post J2 _ c k i z0 g o q (nI c) hk (by omega) h1 h2 (ih (i + 1) _ _ (by omega) ?_ ?_)
      · intro j hj
        by_cases e : j = i
        · subst e; rw [pk_us, pk_us]; exact ⟨rfl, rfl⟩
        · rw [pk_un (by omega), pk_un (by omega)]; exact hl j (by omega)
      · intro o' q' ha' hf
        refine H o' q' ha' (fun x hx => ?_)
        obtain ⟨y, z⟩ := hf x hx
        rw [y, z, pk_un (by omega), pk_un (by omega)]
        exact ⟨rfl, rfl⟩
    refine br_f (nI_ge (a := i) (b := 64) (by omega) (by decide)) (pk_le c i (fun h => ?_) (fun h => ?_))
    · refine J 0 ?_ ?_
      · rw [hs_g0 h]
        exact ⟨fun z => absurd z.symm (nI_ne0 hk0 (by omega)), fun z => absurd z (by decide)⟩
      · rw [hs_g0 h]
        exact ⟨fun z => absurd z.symm (nI_ne0 (by omega) (by omega)), fun z => absurd z (by decide)⟩
    · refine ⟨vp_in_nI (by omega) (by omega), ?_⟩
      rw [show (nI i).toNatClampNeg = i from nI_clamp (by omega)]
      exact J (g i) (hs_g1 h).symm (hs_g2 hk h).symm
theorem tr_2 (post : SX → Prop) (c : Nat) (hc : c ≤ 60) (g : Nat → Int32) :
    ∀ (d k : Nat) (o q : Nat → Int32), k + d = 4 → 1 ≤ k → (∀ k', 1 ≤ k' → k' < k → tr_A c g k' 0 o q) → (∀ o' q', tr_R c g o' q' → post (nI c, g, o', q')) →
      wX_refreshTree_2 post (d + 1) (nI k) (nI c) g o q := by
  intro d
  induction d with
  | zero =>
    intro k o q hk h1 hA H
    exact br_t (nI_lt (a := 3) (b := k) (by omega) (by omega)) (H o q (fun k' a b => hA k' a (by omega)))
  | succ d ih =>
    intro k o q hk h1 hA H
    refine br_f (nI_nlt (a := 3) (b := k) (by omega) (by decide)) (nm_r (pk_mul k 128) ⟨65, tr_15 post _ c hc g k h1 (by omega) 64 0 o q (by omega) (fun j hj => absurd hj (by omega)) ?_⟩)
    intro o' q' hA' hF
    refine ih (k + 1) o' q' (by omega) (by omega) ?_ H
    intro k' a b
    by_cases e : k' = k
    · subst e; exact hA'
    · intro node L a' x1 x2 x3 x4
      have hn : node < 128 := by
        have : node * 1 ≤ node * 2 ^ L := Nat.mul_le_mul_left node Nat.one_le_two_pow
        omega
      obtain ⟨y, z⟩ := hF (k' * 128 + node) (Or.inl (by omega))
      rw [y, z]
      exact hA k' a (by omega) node L a' x1 x2 x3 x4
theorem tr_new (post : SX → Prop) (c : Nat) (hc : c ≤ 60) (g o q : Nat → Int32) (H : ∀ o' q', tr_R c g o' q' → post (nI c, g, o', q')) : wpX_refreshTree post (nI c, g, o, q) :=
  ⟨4, tr_2 post c hc g 3 1 o q (by omega) (by omega) (fun k' a b => absurd b (by omega)) H⟩
