/-! the component's walks over its tree -/
theorem xq_p6 {m : Nat} (h : m ≤ 6) : 1 ≤ 2 ^ m ∧ 2 ^ m ≤ 64 := ⟨Nat.one_le_two_pow, Nat.pow_le_pow_right (n := 2) (by decide) h⟩
theorem xq_sh {m : Nat} (h : m ≤ 6) : (1 : Int32) <<< (nI m &&& 31) = nI (2 ^ m) := by
  have p := xq_p6 h
  have e := pk_shlN (n := 1) (nI m &&& 31) m (s_l m (by omega)) (by omega)
  rw [Nat.one_mul] at e
  exact e
theorem xq_an {a m : Nat} (ha : a ≤ 64) (h : m ≤ 6) : nI a &&& (nI (2 ^ m) - 1) = nI (a % 2 ^ m) := by
  have p := xq_p6 h
  rw [show (1 : Int32) = nI 1 from rfl, pk_sub p.1]
  exact pk_andN (by omega) m (pk_tn (by omega))
theorem xq_sr {a m : Nat} (ha : a < 128) (h : m ≤ 6) : nI a >>> (nI m &&& 31) = nI (a / 2 ^ m) := pk_shrN (by omega) _ m (s_l m (by omega))
theorem xq_ad {P O C : Nat} (h : C ≤ P + O) : nI P + (nI O - nI C) = nI (P + O - C) := by
  rw [← pk_sub h, ← nI_add, Int32.sub_eq_add_neg, Int32.sub_eq_add_neg, Int32.add_assoc]
theorem xq_sl {s w f : Nat} (hs : s ≤ 64) (hw : w ≤ 64) (hf : f ≤ 64) : nI s - nI w < nI f ↔ s < f + w := by
  rw [Int32.lt_iff_toInt_lt, pk_sub_toInt (by omega) (by omega), nI_toInt (by omega)]
  omega
theorem xq_lf (post : Int32 → Prop) (a e : Nat) (ha : a ≤ 64) (he : e ≤ 64) (H : ∀ L, L ≤ 6 → a % 2 ^ L = 0 → a + 2 ^ L ≤ e → post (nI L)) :
    ∀ d m L : Nat, m + d = 7 → L ≤ 6 → a % 2 ^ L = 0 → a + 2 ^ L ≤ e → wX_levelFrom_4 post (nI a) (nI e) (d + 1) (nI L) (nI m) := by
  intro d
  induction d with
  | zero =>
    intro m L hm h1 h2 h3
    exact br_t (nI_lt (a := 6) (by omega) (by omega)) (H L h1 h2 h3)
  | succ d ih =>
    intro m L hm h1 h2 h3
    have p := xq_p6 (m := m) (by omega)
    have ml : a % 2 ^ m ≤ a := Nat.mod_le _ _
    refine br_f (nI_nlt (a := 6) (by omega) (by omega)) (nm_r (xq_sh (by omega)) (pk_eq (a % 2 ^ m) 0 (fun z => ?_) (fun z => nm_r (nI_1 m) (ih (m + 1) L (by omega) h1 h2 h3)) (xq_an ha (by omega)) rfl (by omega) (by omega)))
    exact pk_lt e (a + 2 ^ m) (fun w => nm_r (nI_1 m) (ih (m + 1) L (by omega) h1 h2 h3)) (fun w => nm_r (nI_1 m) (ih (m + 1) m (by omega) (by omega) z w)) rfl (nI_add _ _) (by omega) (by omega)
theorem xq_lev (post : Int32 → Prop) (a e : Nat) (ha : a < e) (he : e ≤ 64) (H : ∀ L, L ≤ 6 → a % 2 ^ L = 0 → a + 2 ^ L ≤ e → post (nI L)) : wpX_levelFrom post (nI a) (nI e) :=
  ⟨7, xq_lf post a e (by omega) he H 6 1 0 (by omega) (by omega) (by simp only [Nat.pow_zero, Nat.mod_one]) (by simp only [Nat.pow_zero]; omega)⟩
theorem xq_lu (post : Int32 → Prop) (a f : Nat) (ha : a ≤ 64) (hf : f ≤ 64) (H : ∀ L, L ≤ 6 → a % 2 ^ L = 0 → f + 2 ^ L ≤ a → post (nI L)) :
    ∀ d m L : Nat, m + d = 7 → L ≤ 6 → a % 2 ^ L = 0 → f + 2 ^ L ≤ a → wX_levelUpTo_4 post (nI a) (nI f) (d + 1) (nI L) (nI m) := by
  intro d
  induction d with
  | zero =>
    intro m L hm h1 h2 h3
    exact br_t (nI_lt (a := 6) (by omega) (by omega)) (H L h1 h2 h3)
  | succ d ih =>
    intro m L hm h1 h2 h3
    have p := xq_p6 (m := m) (by omega)
    have ml : a % 2 ^ m ≤ a := Nat.mod_le _ _
    refine br_f (nI_nlt (a := 6) (by omega) (by omega)) (nm_r (xq_sh (by omega)) (pk_eq (a % 2 ^ m) 0 (fun z => ?_) (fun z => nm_r (nI_1 m) (ih (m + 1) L (by omega) h1 h2 h3)) (xq_an ha (by omega)) rfl (by omega) (by omega)))
    have k := xq_sl (s := a) (w := 2 ^ m) (f := f) ha (by omega) hf
    by_cases w : a < f + 2 ^ m
    · exact br_t (k.mpr w) (nm_r (nI_1 m) (ih (m + 1) L (by omega) h1 h2 h3))
    · exact br_f (fun x => w (k.mp x)) (nm_r (nI_1 m) (ih (m + 1) m (by omega) (by omega) z (by omega)))
theorem xq_leu (post : Int32 → Prop) (a f : Nat) (ha : a ≤ 64) (hf : f < a) (H : ∀ L, L ≤ 6 → a % 2 ^ L = 0 → f + 2 ^ L ≤ a → post (nI L)) : wpX_levelUpTo post (nI a) (nI f) :=
  ⟨7, xq_lu post a f ha (by omega) H 6 1 0 (by omega) (by omega) (by simp only [Nat.pow_zero, Nat.mod_one]) (by simp only [Nat.pow_zero]; omega)⟩
theorem xq_nd {L a : Nat} (hL : L ≤ 6) (h : a % 2 ^ L = 0) : (64 + a) / 2 ^ L * 2 ^ L = 64 + a := by
  have h6 : L = 0 ∨ L = 1 ∨ L = 2 ∨ L = 3 ∨ L = 4 ∨ L = 5 ∨ L = 6 := by omega
  rcases h6 with rfl | rfl | rfl | rfl | rfl | rfl | rfl <;> simp only [Nat.reducePow] at h ⊢ <;> omega
theorem xq_nu {L a : Nat} (hL : L ≤ 6) (h : a % 2 ^ L = 0) (h2 : 2 ^ L ≤ a) : (64 + a - 1) / 2 ^ L * 2 ^ L = 64 + (a - 2 ^ L) := by
  have h6 : L = 0 ∨ L = 1 ∨ L = 2 ∨ L = 3 ∨ L = 4 ∨ L = 5 ∨ L = 6 := by omega
  rcases h6 with rfl | rfl | rfl | rfl | rfl | rfl | rfl <;> simp only [Nat.reducePow] at h h2 ⊢ <;> omega
theorem xq_lz {post : Int32 → Prop} {x y : Int32} (A B : Nat) (hx : x = nI A) (hy : y = nI B) (hA : A < 2 ^ 31) (hB : B < 2 ^ 31) (H : post (nI (A - B))) : wpX_lessDownToZero post x y := by
  subst hx hy
  refine pk_le A B (fun z => ?_) (fun z => ?_) rfl rfl hA hB
  · rw [show A - B = 0 from by omega] at H; exact H
  · rw [pk_sub (by omega)]; exact H
theorem xq_nz {N w a : Nat} (h : N * w = 64 + a) : 0 < N := by
  cases N with
  | zero => rw [Nat.zero_mul] at h; omega
  | succ N => omega
theorem xq_nb {N L a : Nat} (h : N * 2 ^ L = 64 + a) (ha : a < 64) : N < 128 := by
  have : N * 1 ≤ N * 2 ^ L := Nat.mul_le_mul_left N Nat.one_le_two_pow
  omega
theorem xq_oi (post : Int32 → Prop) (c : Nat) (g o q : Nat → Int32) (k : Nat) (hk1 : 1 ≤ k) (hk3 : k ≤ 3) (hR : tr_R c g o q) (f e : Nat) (he : e ≤ 60) (H : post (nI (hs_o (hs_g c g k) f e))) :
    ∀ d tk i : Nat, tk + d = 60 → f ≤ i → i ≤ e → tk + f ≤ i → wX_opensIn_9 post (nI e) (nI k) (nI c) g o q (d + 1) (nI (hs_o (hs_g c g k) f i)) (nI i) (nI tk) := by
  intro d
  induction d with
  | zero =>
    intro tk i h1 h2 h3 h4
    rw [show i = e from by omega]
    exact br_t (nI_le (a := 60) (by omega) (by omega)) H
  | succ d ih =>
    intro tk i h1 h2 h3 h4
    refine br_f (nI_ge (b := 60) (by omega) (by decide)) (pk_le e i (fun z => ?_) (fun z => ?_))
    · rw [show i = e from by omega]; exact H
    · refine xq_lev _ i e z (by omega) (fun L hL hm hw => ?_)
      have p := xq_p6 hL
      have hN := xq_nd hL hm
      have N0 := xq_nz hN
      have N1 := xq_nb hN (by omega)
      obtain ⟨eo, ec⟩ := hR k hk1 hk3 ((64 + i) / 2 ^ L) L i N0 hL hN (by omega)
      have ex : nI k * 128 + ((64 + nI i) >>> (nI L &&& 31)) = nI (k * 128 + (64 + i) / 2 ^ L) := by
        rw [show (128 : Int32) = nI 128 from rfl, show (64 : Int32) = nI 64 from rfl, pk_mul, nI_add, xq_sr (by omega) hL, nI_add]
      have cx : (nI (k * 128 + (64 + i) / 2 ^ L)).toNatClampNeg = k * 128 + (64 + i) / 2 ^ L := nI_clamp (by omega)
      have v : vp_in (nI (k * 128 + (64 + i) / 2 ^ L)) 512 := vp_in_nI (by omega) (by omega)
      have b1 := hs_ole (hs_g c g k) f i
      have b2 := hs_cle (hs_g c g k) i (i + 2 ^ L)
      have mm := hs_om (hs_g c g k) (a := f) (m := i) (b := i + 2 ^ L) h2 (Nat.le_add_right _ _)
      refine nm_r ex ⟨v, xq_lz (hs_o (hs_g c g k) f i) (hs_c (hs_g c g k) i (i + 2 ^ L)) rfl (by rw [cx]; exact ec) (by omega) (by omega) ⟨v, nm_r (e' := nI (hs_o (hs_g c g k) f (i + 2 ^ L))) ?_ (nm_r (e' := nI (i + 2 ^ L)) ?_ (nm_r (nI_1 tk) (ih (tk + 1) (i + 2 ^ L) (by omega) (by omega) (by omega) (by omega))))⟩⟩
      · rw [cx, eo, nI_add, mm, Nat.add_comm]
      · rw [xq_sh hL, nI_add]
theorem xq_opensIn (post : Int32 → Prop) (c : Nat) (g o q : Nat → Int32) (k : Nat) (hk1 : 1 ≤ k) (hk3 : k ≤ 3) (hR : tr_R c g o q) {f e : Nat} {x0 x1 : Int32} (hf : f ≤ e) (he : e ≤ 60) (e0 : x0 = nI f) (e1 : x1 = nI e) (H : post (nI (hs_o (hs_g c g k) f e))) :
    wpX_opensIn post (nI c, g, o, q) x0 x1 (nI k) := by
  subst e0 e1
  have h := xq_oi post c g o q k hk1 hk3 hR f e he H 60 0 f (by omega) (by omega) hf (by omega)
  rw [hs_oo] at h
  exact ⟨61, h⟩
theorem xq_cl (post : Int32 → Prop) (c : Nat) (g o q : Nat → Int32) (k : Nat) (hk1 : 1 ≤ k) (hk3 : k ≤ 3) (hR : tr_R c g o q) (f e : Nat) (he : e ≤ 60) (H : post (nI (hs_c (hs_g c g k) f e))) :
    ∀ d tk i : Nat, tk + d = 60 → f ≤ i → i ≤ e → tk + i ≤ e → wX_closesIn_9 post (nI f) (nI k) (nI c) g o q (d + 1) (nI (hs_c (hs_g c g k) i e)) (nI i) (nI tk) := by
  intro d
  induction d with
  | zero =>
    intro tk i h1 h2 h3 h4
    rw [show i = f from by omega]
    exact br_t (nI_le (a := 60) (by omega) (by omega)) H
  | succ d ih =>
    intro tk i h1 h2 h3 h4
    refine br_f (nI_ge (b := 60) (by omega) (by decide)) (pk_le i f (fun z => ?_) (fun z => ?_))
    · rw [show i = f from by omega]; exact H
    · refine xq_leu _ i f (by omega) z (fun L hL hm hw => ?_)
      have p := xq_p6 hL
      have hN := xq_nu hL hm (by omega)
      have N0 := xq_nz hN
      have N1 := xq_nb hN (by omega)
      obtain ⟨eo, ec⟩ := hR k hk1 hk3 ((64 + i - 1) / 2 ^ L) L (i - 2 ^ L) N0 hL hN (by omega)
      rw [show i - 2 ^ L + 2 ^ L = i from by omega] at eo ec
      have ex : nI k * 128 + ((64 + nI i - 1) >>> (nI L &&& 31)) = nI (k * 128 + (64 + i - 1) / 2 ^ L) := by
        rw [show (128 : Int32) = nI 128 from rfl, show (64 : Int32) = nI 64 from rfl, show (1 : Int32) = nI 1 from rfl, pk_mul, nI_add, pk_sub (by omega), xq_sr (by omega) hL, nI_add]
      have cx : (nI (k * 128 + (64 + i - 1) / 2 ^ L)).toNatClampNeg = k * 128 + (64 + i - 1) / 2 ^ L := nI_clamp (by omega)
      have v : vp_in (nI (k * 128 + (64 + i - 1) / 2 ^ L)) 512 := vp_in_nI (by omega) (by omega)
      have b1 := hs_cle (hs_g c g k) i e
      have b2 := hs_ole (hs_g c g k) (i - 2 ^ L) i
      have mm := hs_cm (hs_g c g k) (a := i - 2 ^ L) (m := i) (b := e) (by omega) h3
      refine nm_r ex ⟨v, xq_lz (hs_c (hs_g c g k) i e) (hs_o (hs_g c g k) (i - 2 ^ L) i) rfl (by rw [cx]; exact eo) (by omega) (by omega) ⟨v, nm_r (e' := nI (hs_c (hs_g c g k) (i - 2 ^ L) e)) ?_ (nm_r (e' := nI (i - 2 ^ L)) ?_ (nm_r (nI_1 tk) (ih (tk + 1) (i - 2 ^ L) (by omega) (by omega) (by omega) (by omega))))⟩⟩
      · rw [cx, ec, nI_add, mm, Nat.add_comm]
      · rw [xq_sh hL, pk_sub (by omega)]
theorem xq_closesIn (post : Int32 → Prop) (c : Nat) (g o q : Nat → Int32) (k : Nat) (hk1 : 1 ≤ k) (hk3 : k ≤ 3) (hR : tr_R c g o q) {f e : Nat} {x0 x1 : Int32} (hf : f ≤ e) (he : e ≤ 60) (e0 : x0 = nI f) (e1 : x1 = nI e) (H : post (nI (hs_c (hs_g c g k) f e))) :
    wpX_closesIn post (nI c, g, o, q) x0 x1 (nI k) := by
  subst e0 e1
  have h := xq_cl post c g o q k hk1 hk3 hR f e he H 60 0 e (by omega) hf (by omega) (by omega)
  rw [hs_cc] at h
  exact ⟨61, h⟩
