/-! what is owed -/
/-- the same text on both sides, its codes from 0 to 6; each node of the tree holds its stretch's loose brackets -/
def i_Rel (k : Nat) (u : SX) (v : SY) : Prop := ∃ (c : Nat) (g o q p : Nat → Int32), u = (nI c, g, o, q) ∧ v = (nI c, g, p) ∧ c ≤ 60 ∧ ed_cd g ∧ tr_R c g o q
theorem i_up {k : Nat} {u : SX} {v : SY} (h : i_Rel k u v) : i_Rel (k + 4) u v := h
theorem rl_mk {k c : Nat} {g o q p : Nat → Int32} (hc : c ≤ 60) (hg : ed_cd g) (hR : tr_R c g o q) : i_Rel k (nI c, g, o, q) (nI c, g, p) := ⟨c, g, o, q, p, rfl, rfl, hc, hg, hR⟩
theorem i_vc0 : wpX_init (fun u => wpY_init (fun v => i_Rel 0 u v)) := by
  refine ⟨0, fun _ => 0, fun _ => 0, fun _ => 0, fun _ => 0, rfl, rfl, by omega, fun j => ⟨0, by omega, rfl⟩, fun k h1 h3 node L a _ _ _ _ => ?_⟩
  have z : ∀ j, hs_g 0 (fun _ => 0) k j = 0 := fun j => hs_g0 (Nat.zero_le j)
  rw [hs_oz _ z, hs_cz _ z]
  exact ⟨rfl, rfl⟩
theorem i_vc_insert {k : Nat} {u : SX} {v : SY} (I : i_Rel k u v) (hk : k + 4 ≤ 2048) (v1 : Int32) (v2 : Int32) : wpX_insert (fun r u' => wpY_insert (fun r' v' => r' = r ∧ i_Rel (k + 4) u' v') v v1 v2) u v1 v2 := by
  obtain ⟨c, g, o, q, p, rfl, rfl, hc, hg, hR⟩ := I
  have R : i_Rel (k + 4) (nI c, g, o, q) (nI c, g, p) := rl_mk hc hg hR
  by_cases h : c = 60
  · subst h
    exact br_f (nI_nlt (a := 60) (b := 60) (by decide) (by decide)) (br_t rfl ⟨rfl, R⟩)
  · have hl : nI c < 60 := nI_lt (b := 60) (by omega) (by decide)
    have hn : ¬ nI c = 60 := by
      intro z
      have y : nI c = nI 60 := z
      rw [nI_eq (by omega) (by omega)] at y
      exact h y
    refine br_t hl (br_c (fun h0 => br_f hn (br_t h0 ⟨rfl, R⟩)) (fun h0 => br_c (fun h1 => br_f hn (br_f h0 (br_t h1 ⟨rfl, R⟩))) (fun h1 => br_c (fun h2 => br_f hn (br_f h0 (br_f h1 (br_t h2 ⟨rfl, R⟩)))) (fun h2 => br_c (fun h3 => ?_) (fun h3 => br_f hn (br_f h0 (br_f h1 (br_f h2 (br_f h3 ⟨rfl, R⟩)))))))))
    obtain ⟨a, ha, rfl⟩ := nI_of h0
    obtain ⟨e, he, rfl⟩ := nI_of h2
    have hac : a ≤ c := by rw [nI_ltI (by omega) ha] at h1; omega
    have he6 : e ≤ 6 := by
      have y : nI e ≤ nI 6 := h3
      rw [nI_leI he (by omega)] at y
      exact y
    exact ed_xin _ g o q (by omega) hac (fun o' q' hR' => ed_yin _ g p (by omega) hac he6 rfl rfl ⟨rfl, rl_mk (by omega) (ed_cdU (ed_shC hg a c) a he6 rfl) hR'⟩)
theorem i_vc_erase {k : Nat} {u : SX} {v : SY} (I : i_Rel k u v) (hk : k + 4 ≤ 2048) (v1 : Int32) (v2 : Int32) : wpX_erase (fun r u' => wpY_erase (fun r' v' => r' = r ∧ i_Rel (k + 4) u' v') v v1 v2) u v1 v2 := by
  obtain ⟨c, g, o, q, p, rfl, rfl, hc, hg, hR⟩ := I
  have R : i_Rel (k + 4) (nI c, g, o, q) (nI c, g, p) := rl_mk hc hg hR
  unfold wpX_erase wpY_erase
  dsimp only
  rcases gd_st c hc g o q p v1 v2 with ⟨a, l, hal, rfl, rfl, hX, hY⟩ | ⟨hX, hY⟩
  · refine hX _ (br_f (by decide) (ed_xer _ g o q hc hal (fun o' q' hR' => hY _ (br_f (by decide) (ed_yer _ g p hc hal ?_)))))
    exact ⟨rfl, rl_mk (by omega) (ed_erC hg _ _ _) hR'⟩
  · exact hX _ (br_t rfl (hY _ (br_t rfl ⟨rfl, R⟩)))
theorem i_vc_move {k : Nat} {u : SX} {v : SY} (I : i_Rel k u v) (hk : k + 4 ≤ 2048) (v1 : Int32) (v2 : Int32) (v3 : Int32) : wpX_move (fun r u' => wpY_move (fun r' v' => r' = r ∧ i_Rel (k + 4) u' v') v v1 v2 v3) u v1 v2 v3 := by
  obtain ⟨c, g, o, q, p, rfl, rfl, hc, hg, hR⟩ := I
  have R : i_Rel (k + 4) (nI c, g, o, q) (nI c, g, p) := rl_mk hc hg hR
  unfold wpX_move wpY_move
  dsimp only
  rcases gd_st c hc g o q p v1 v2 with ⟨a, l, hal, rfl, rfl, hX, hY⟩ | ⟨hX, hY⟩
  · refine hX _ (br_f (by decide) (br_c (fun h0 => hY _ (br_f (by decide) (br_t h0 ⟨rfl, R⟩))) (fun h0 => br_c (fun h1 => ?_) (fun h1 => hY _ (br_f (by decide) (br_f h0 (br_f h1 ⟨rfl, R⟩)))))))
    obtain ⟨t, ht, rfl⟩ := nI_of h0
    have htc : t + l ≤ c := by
      have y := h1
      rw [pk_sub (by omega), nI_leI ht (by omega)] at y
      omega
    have Y : ∀ post : Int32 → SY → Prop, post (nI c) (nI c, ed_mv (ed_er g a (c - l) l) (ed_cp g p a 0 l) t l (c - l), ed_cp g p a 0 l) → ∃ n, wY_move_28 post (nI a) (nI l) (nI t) (nI c) n 0 g p :=
      fun post H => ⟨l + 1, ed_y28 post c a l t hc hal htc g hg l 0 p (by omega) (fun j hj => absurd hj (by omega)) H⟩
    refine pk_le t a (fun z => ?_) (fun z => ?_)
    · refine ed_xsw _ (nI c) g o q (a := t) (b := a) (e := a + l) z (by omega) (by omega) rfl (nI_add a l) (tr_new _ c hc _ o q (fun o' q' hR' => hY _ (br_f (by decide) (br_f h0 (br_t h1 (Y _ ?_))))))
      rw [ed_moveL g p hal htc z]
      exact ⟨rfl, rl_mk hc (ed_swC hg _ _ _) hR'⟩
    · refine ed_xsw _ (nI c) g o q (a := a) (b := a + l) (e := t + l) (by omega) (by omega) (by omega) (nI_add a l) (nI_add t l) (tr_new _ c hc _ o q (fun o' q' hR' => hY _ (br_f (by decide) (br_f h0 (br_t h1 (Y _ ?_))))))
      rw [ed_moveR g p hal htc z]
      exact ⟨rfl, rl_mk hc (ed_swC hg _ _ _) hR'⟩
  · exact hX _ (br_t rfl (hY _ (br_t rfl ⟨rfl, R⟩)))
theorem i_vc_mirror {k : Nat} {u : SX} {v : SY} (I : i_Rel k u v) (hk : k + 4 ≤ 2048) (v1 : Int32) (v2 : Int32) : wpX_mirror (fun r u' => wpY_mirror (fun r' v' => r' = r ∧ i_Rel (k + 4) u' v') v v1 v2) u v1 v2 := by
  obtain ⟨c, g, o, q, p, rfl, rfl, hc, hg, hR⟩ := I
  have R : i_Rel (k + 4) (nI c, g, o, q) (nI c, g, p) := rl_mk hc hg hR
  unfold wpX_mirror wpY_mirror
  dsimp only
  rcases gd_st c hc g o q p v1 v2 with ⟨a, l, hal, rfl, rfl, hX, hY⟩ | ⟨hX, hY⟩
  · refine hX _ (br_f (by decide) (ed_xrev _ (nI c) g o q (l := a) (e := a + l) (by omega) (by omega) (nI_add a l) ⟨l + 1, ed_xm _ c a l hc hal o q l a _ rfl (fun o' q' hR' => hY _ (br_f (by decide) ⟨l + 1, ed_y13 _ c a l hc hal g l 0 p (by omega) ?_⟩))⟩))
    rw [ed_mirEq]
    exact ⟨rfl, rl_mk hc (ed_mrC (ed_rvC hg _ _) _ _) hR'⟩
  · exact hX _ (br_t rfl (hY _ (br_t rfl ⟨rfl, R⟩)))
theorem i_vc_codeAt {k : Nat} {u : SX} {v : SY} (I : i_Rel k u v) (hk : k + 4 ≤ 2048) (v1 : Int32) : wpX_codeAt (fun r => wpY_codeAt (fun r' => r' = r ∧ i_Rel (k + 4) u v) v v1) u v1 := by
  obtain ⟨c, g, o, q, p, rfl, rfl, hc, hg, hR⟩ := I
  have R : i_Rel (k + 4) (nI c, g, o, q) (nI c, g, p) := rl_mk hc hg hR
  unfold wpX_codeAt wpY_codeAt
  dsimp only
  rcases gd_po c hc g o q p v1 with ⟨a, ha, rfl, hX, hY⟩ | ⟨hX, hY⟩
  · have w : vp_in (nI a) 60 := vp_in_nI (by omega) (by omega)
    exact hX _ (br_f (by decide) ⟨w, hY _ (br_f (by decide) ⟨w, rfl, R⟩)⟩)
  · exact hX _ (br_t rfl (hY _ (br_t rfl ⟨rfl, R⟩)))
theorem rl_ge {c : Nat} {g : Nat → Int32} {k j : Nat} {x : Int} (h : hs_g c g k j = x) (hx : x ≠ 0) : j < c := by
  by_cases z : j < c
  · exact z
  · rw [hs_g0 (by omega)] at h; exact absurd h.symm hx
theorem i_vc_partner {k : Nat} {u : SX} {v : SY} (I : i_Rel k u v) (hk : k + 4 ≤ 2048) (v1 : Int32) : wpX_partner (fun r => wpY_partner (fun r' => r' = r ∧ i_Rel (k + 4) u v) v v1) u v1 := by
  obtain ⟨c, g, o, q, p, rfl, rfl, hc, hg, hR⟩ := I
  have R : i_Rel (k + 4) (nI c, g, o, q) (nI c, g, p) := rl_mk hc hg hR
  unfold wpX_partner wpY_partner
  dsimp only
  rcases gd_po c hc g o q p v1 with ⟨i, hi, rfl, hX, hY⟩ | ⟨hX, hY⟩
  · have w : vp_in (nI i) 60 := vp_in_nI (by omega) (by omega)
    have ci : (nI i).toNatClampNeg = i := nI_clamp (by omega)
    obtain ⟨e, he, hgi⟩ := hg i
    refine hX _ (br_f (by decide) ⟨w, nm_r (e' := nI e) (by rw [ci]; exact hgi) ?_⟩)
    by_cases e0 : e = 0
    · subst e0
      refine br_t rfl (hY _ (br_f (by decide) ⟨w, nm_r (e' := nI 0) (by rw [ci]; exact hgi) (br_f (by decide) (br_t rfl ⟨rfl, R⟩))⟩))
    · refine br_f (nI_ne0 (by omega) (by omega)) ?_
      by_cases e3 : e ≤ 3
      · have si := (hs_g1 (k := e) hi).mpr hgi
        refine br_f (nI_nlt (a := 3) e3 (by decide)) (xf_closing _ c g o q e (by omega) e3 hR i (by omega) (fun j a1 a2 a3 => ?_) (fun z => ?_))
        · have pr := (hs_prR (hs_g c g e) a1 si).mpr ⟨a2, a3⟩
          have jc : j < c := rl_ge pr.2.2.1 (by decide)
          refine hY _ (br_f (by decide) (yq_mateO _ c hc g p e (by omega) e3 i 0 c rfl rfl hi (by omega) (by omega) hgi (fun j' b1 b2 b3 => ?_) (fun n => absurd pr (n j (by omega) jc))))
          rw [hs_prUR _ b3 pr]
          exact ⟨rfl, R⟩
        · refine hY _ (br_f (by decide) (yq_mateO _ c hc g p e (by omega) e3 i 0 c rfl rfl hi (by omega) (by omega) hgi (fun j' b1 b2 b3 => ?_) (fun n => ⟨rfl, R⟩)))
          exfalso
          have x := (hs_prR (hs_g c g e) b3.1 si).mp b3
          have y := hs_cmono (hs_g c g e) (a := i + 1) (m := j' + 1) (b := 64) (by have := b3.1; omega) (by omega)
          omega
      · obtain ⟨d, rfl⟩ : ∃ d, e = d + 3 := ⟨e - 3, by omega⟩
        have d1 : 1 ≤ d := by omega
        have d3 : d ≤ 3 := by omega
        have si := (hs_g2 (k := d) d3 hi).mpr hgi
        have ed : nI (d + 3) - 3 = nI d := by rw [show (3 : Int32) = nI 3 from rfl, pk_sub (by omega)]; exact congrArg nI (by omega)
        refine br_t (nI_lt (a := 3) (by omega) (by omega)) (xf_opening _ c g o q d d1 d3 hR i rfl ed (by omega) (fun j a1 a2 a3 => ?_) (fun z => ?_))
        · have pr := (hs_prL (hs_g c g d) a1 si).mpr ⟨a2, a3⟩
          refine hY _ (br_f (by decide) (yq_mateC _ c hc g p d d1 d3 i 0 c rfl rfl hi (by omega) (by omega) hgi (fun j' b1 b2 b3 => ?_) (fun n => absurd pr (n j (by omega) (by omega)))))
          have x := (hs_prL (hs_g c g d) b3.1 si).mp b3
          have bl := b3.1
          have ej : j' = j := by
            by_cases l1 : j' < j
            · have y := hs_omono (hs_g c g d) (a := j' + 1) (m := j) (b := i) (by omega) (by omega)
              omega
            · by_cases l2 : j < j'
              · have y := hs_omono (hs_g c g d) (a := j + 1) (m := j') (b := i) (by omega) (by omega)
                omega
              · omega
          rw [ej]
          exact ⟨rfl, R⟩
        · refine hY _ (br_f (by decide) (yq_mateC _ c hc g p d d1 d3 i 0 c rfl rfl hi (by omega) (by omega) hgi (fun j' b1 b2 b3 => ?_) (fun n => ⟨rfl, R⟩)))
          exfalso
          have x := (hs_prL (hs_g c g d) b3.1 si).mp b3
          have y := hs_omono (hs_g c g d) (a := 0) (m := j') (b := i) (by omega) (by have := b3.1; omega)
          omega
  · exact hX _ (br_t rfl (hY _ (br_t rfl ⟨rfl, R⟩)))
theorem i_vc_around {k : Nat} {u : SX} {v : SY} (I : i_Rel k u v) (hk : k + 4 ≤ 2048) (v1 : Int32) (v2 : Int32) : wpX_around (fun r => wpY_around (fun r' => r' = r ∧ i_Rel (k + 4) u v) v v1 v2) u v1 v2 := by
  obtain ⟨c, g, o, q, p, rfl, rfl, hc, hg, hR⟩ := I
  have R : i_Rel (k + 4) (nI c, g, o, q) (nI c, g, p) := rl_mk hc hg hR
  unfold wpX_around wpY_around
  dsimp only
  rcases gd_po c hc g o q p v1 with ⟨b, hb, rfl, hX, hY⟩ | ⟨hX, hY⟩
  · rcases gd_k v2 with ⟨e, e1, e3, rfl, k1, k2, k3⟩ | k1 | ⟨k1, k2, k3⟩
    · refine hX _ (br_f (by decide) (br_f k1 (br_f k2 (br_f (by decide) (xc_cut _ c hc g o q e b hb (fun m hM => ?_))))))
      have hmb : b ≤ m ∧ m ≤ b + 1 := by rcases hM with ⟨_, y⟩ | ⟨_, y⟩ <;> omega
      have Y : ∀ post : Int32 → Prop, (∀ i, i < b → (∃ j, b + 1 ≤ j ∧ j < c ∧ hs_pr (hs_g c g e) i j) → (∀ i', i < i' → i' < b → ¬ ∃ j, b + 1 ≤ j ∧ j < c ∧ hs_pr (hs_g c g e) i' j) → post (nI i)) →
          ((∀ i, i < b → ¬ ∃ j, b + 1 ≤ j ∧ j < c ∧ hs_pr (hs_g c g e) i j) → post (-3)) → ∀ y, y = nI b - 1 → ∃ n, wY_around_24 post (nI b) (nI e) (nI c) g p n y :=
        fun post A B => nm_e ⟨b + 1, yq_ar post c hc g p e e1 e3 b hb A B b (by omega) (fun i' x y => absurd x (by omega))⟩
      have b1 := hs_ole (hs_g c g e) 0 m
      have b2 := hs_cle (hs_g c g e) m c
      refine xc_pa _ c hc g o q e e1 e3 hR m (by omega) (pk_eq (xc_n c g e m 0) 0 (fun z => ?_) (fun z => ?_) rfl rfl (by unfold xc_n; split <;> omega) (by omega))
      · have no : ∀ i, i < b → ¬ ∃ j, b + 1 ≤ j ∧ j < c ∧ hs_pr (hs_g c g e) i j := by
          intro i hi x
          rw [xc_eq e3 hb hM] at x
          have mo := hs_omono (hs_g c g e) (a := 0) (m := i) (b := m) (by omega) (by omega)
          rcases hs_crs (hs_g c g e) (i := i) (m := m) (e := c) (by omega) (by omega) with ⟨_, y1, y2⟩ | ⟨y, _⟩
          · unfold xc_n at z
            clear x
            split at z <;> omega
          · exact y x
        exact hY _ (br_f (by decide) (br_f k1 (br_t k3 (Y _ (fun i hi x _ => absurd x (no i hi)) (fun _ => ⟨rfl, R⟩)))))
      · have z1 : 1 ≤ hs_o (hs_g c g e) 0 m ∧ 1 ≤ hs_c (hs_g c g e) m c := by
          unfold xc_n at z
          split at z <;> omega
        refine xf_opening _ c g o q e e1 e3 hR m rfl rfl (by omega) (fun j a1 a2 a3 => ?_) (fun n => by omega)
        have cr : ∃ j', m ≤ j' ∧ j' < c ∧ hs_pr (hs_g c g e) j j' := by
          rcases hs_crs (hs_g c g e) (i := j) (m := m) (e := c) a1 (by omega) with ⟨y, _⟩ | ⟨_, y⟩
          · exact y
          · exfalso; omega
        have jb : j < b := by
          obtain ⟨j', _, _, y⟩ := cr
          exact xc_lt e3 hb hM y a1
        have cr2 := (xc_eq e3 hb hM j).mpr cr
        refine hY _ (br_f (by decide) (br_f k1 (br_t k3 (Y _ (fun i hi x n => ?_) (fun n => absurd cr2 (n j jb))))))
        have ei : i = j := by
          by_cases l1 : i < j
          · exact absurd cr2 (n j l1 jb)
          · by_cases l2 : j < i
            · rw [xc_eq e3 hb hM] at x
              have mo := hs_omono (hs_g c g e) (a := j + 1) (m := i) (b := m) (by omega) (by omega)
              rcases hs_crs (hs_g c g e) (i := i) (m := m) (e := c) (by omega) (by omega) with ⟨_, y1, y2⟩ | ⟨y, _⟩
              · exfalso; clear x cr cr2 n; omega
              · exact absurd x y
            · clear x cr cr2 n; omega
        rw [ei]
        exact ⟨rfl, R⟩
    · exact hX _ (br_f (by decide) (br_t k1 (br_t rfl (hY _ (br_f (by decide) (br_t k1 ⟨rfl, R⟩))))))
    · exact hX _ (br_f (by decide) (br_f k1 (br_t k2 (br_t rfl (hY _ (br_f (by decide) (br_f k1 (br_f k3 ⟨rfl, R⟩))))))))
  · exact hX _ (br_t rfl (hY _ (br_t rfl ⟨rfl, R⟩)))
theorem i_vc_depth {k : Nat} {u : SX} {v : SY} (I : i_Rel k u v) (hk : k + 4 ≤ 2048) (v1 : Int32) (v2 : Int32) : wpX_depth (fun r => wpY_depth (fun r' => r' = r ∧ i_Rel (k + 4) u v) v v1 v2) u v1 v2 := by
  obtain ⟨c, g, o, q, p, rfl, rfl, hc, hg, hR⟩ := I
  have R : i_Rel (k + 4) (nI c, g, o, q) (nI c, g, p) := rl_mk hc hg hR
  unfold wpX_depth wpY_depth
  dsimp only
  rcases gd_po c hc g o q p v1 with ⟨b, hb, rfl, hX, hY⟩ | ⟨hX, hY⟩
  · rcases gd_k v2 with ⟨e, e1, e3, rfl, k1, k2, k3⟩ | k1 | ⟨k1, k2, k3⟩
    · refine hX _ (br_f (by decide) (br_f k1 (br_f k2 (br_f (by decide) (xc_cut _ c hc g o q e b hb (fun m hM => ?_))))))
      have hmb : b ≤ m ∧ m ≤ b + 1 := by rcases hM with ⟨_, y⟩ | ⟨_, y⟩ <;> omega
      refine xc_pa _ c hc g o q e e1 e3 hR m (by omega) (hY _ (br_f (by decide) (br_f k1 (br_t k3 ⟨b + 1, yq_d25 _ c hc g p e e3 b m hb hM (by omega) (by omega) ⟨rfl, R⟩ b 0 0 (by omega) (by omega)⟩))))
    · exact hX _ (br_f (by decide) (br_t k1 (br_t rfl (hY _ (br_f (by decide) (br_t k1 ⟨rfl, R⟩))))))
    · exact hX _ (br_f (by decide) (br_f k1 (br_t k2 (br_t rfl (hY _ (br_f (by decide) (br_f k1 (br_f k3 ⟨rfl, R⟩))))))))
  · exact hX _ (br_t rfl (hY _ (br_t rfl ⟨rfl, R⟩)))
theorem i_vc_looseOpen {k : Nat} {u : SX} {v : SY} (I : i_Rel k u v) (hk : k + 4 ≤ 2048) (v1 : Int32) (v2 : Int32) (v3 : Int32) : wpX_looseOpen (fun r => wpY_looseOpen (fun r' => r' = r ∧ i_Rel (k + 4) u v) v v1 v2 v3) u v1 v2 v3 := by
  obtain ⟨c, g, o, q, p, rfl, rfl, hc, hg, hR⟩ := I
  have R : i_Rel (k + 4) (nI c, g, o, q) (nI c, g, p) := rl_mk hc hg hR
  unfold wpX_looseOpen wpY_looseOpen
  dsimp only
  rcases gd_st c hc g o q p v1 v2 with ⟨a, l, hal, rfl, rfl, hX, hY⟩ | ⟨hX, hY⟩
  · rcases gd_k v3 with ⟨e, e1, e3, rfl, k1, k2, k3⟩ | k1 | ⟨k1, k2, k3⟩
    · exact hX _ (br_f (by decide) (br_f k1 (br_f k2 (br_f (by decide) (xq_opensIn _ c g o q e e1 e3 hR (f := a) (e := a + l) (by omega) (by omega) rfl (nI_add a l) (hY _ (br_f (by decide) (br_f k1 (br_t k3 ⟨l + 1, yq_lo _ c hc g p e e1 e3 a l hal ⟨rfl, R⟩ l a 0 rfl (by omega) (by omega)⟩)))))))))
    · exact hX _ (br_f (by decide) (br_t k1 (br_t rfl (hY _ (br_f (by decide) (br_t k1 ⟨rfl, R⟩))))))
    · exact hX _ (br_f (by decide) (br_f k1 (br_t k2 (br_t rfl (hY _ (br_f (by decide) (br_f k1 (br_f k3 ⟨rfl, R⟩))))))))
  · exact hX _ (br_t rfl (hY _ (br_t rfl ⟨rfl, R⟩)))
theorem i_vc_looseClose {k : Nat} {u : SX} {v : SY} (I : i_Rel k u v) (hk : k + 4 ≤ 2048) (v1 : Int32) (v2 : Int32) (v3 : Int32) : wpX_looseClose (fun r => wpY_looseClose (fun r' => r' = r ∧ i_Rel (k + 4) u v) v v1 v2 v3) u v1 v2 v3 := by
  obtain ⟨c, g, o, q, p, rfl, rfl, hc, hg, hR⟩ := I
  have R : i_Rel (k + 4) (nI c, g, o, q) (nI c, g, p) := rl_mk hc hg hR
  unfold wpX_looseClose wpY_looseClose
  dsimp only
  rcases gd_st c hc g o q p v1 v2 with ⟨a, l, hal, rfl, rfl, hX, hY⟩ | ⟨hX, hY⟩
  · rcases gd_k v3 with ⟨e, e1, e3, rfl, k1, k2, k3⟩ | k1 | ⟨k1, k2, k3⟩
    · refine hX _ (br_f (by decide) (br_f k1 (br_f k2 (br_f (by decide) (xq_closesIn _ c g o q e e1 e3 hR (f := a) (e := a + l) (by omega) (by omega) rfl (nI_add a l) (hY _ (br_f (by decide) (br_f k1 (br_t k3 ⟨l + 1, ?_⟩)))))))))
      have h := fun post H => yq_lc post c hc g p e e1 e3 a l hal H l a rfl (by omega)
      rw [hs_cc] at h
      rw [show nI e + 3 = nI (e + 3) from nI_add e 3]
      refine h _ ?_
      exact ⟨rfl, R⟩
    · exact hX _ (br_f (by decide) (br_t k1 (br_t rfl (hY _ (br_f (by decide) (br_t k1 ⟨rfl, R⟩))))))
    · exact hX _ (br_f (by decide) (br_f k1 (br_t k2 (br_t rfl (hY _ (br_f (by decide) (br_f k1 (br_f k3 ⟨rfl, R⟩))))))))
  · exact hX _ (br_t rfl (hY _ (br_t rfl ⟨rfl, R⟩)))
