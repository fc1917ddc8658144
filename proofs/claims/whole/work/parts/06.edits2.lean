/-! mirror and move -/
def ed_mi (x : Int32) : Int32 := if x = 0 then 0 else if 3 < x then x - 3 else x + 3
theorem ed_miC : ∀ e : Fin 7, ∃ e' : Fin 7, ed_mi (nI e.val) = nI e'.val := by decide +kernel
theorem ed_mi6 {x : Int32} (h : ∃ e : Nat, e ≤ 6 ∧ x = nI e) : ∃ e : Nat, e ≤ 6 ∧ ed_mi x = nI e := by
  obtain ⟨e, he, rfl⟩ := h
  obtain ⟨⟨e', h'⟩, y⟩ := ed_miC ⟨e, by omega⟩
  exact ⟨e', by omega, y⟩
theorem ed_xmi (post : Int32 → Prop) (x : Int32) (H : post (ed_mi x)) : wpX_mirrored post x := by
  unfold ed_mi at H
  by_cases h : x = 0
  · rw [if_pos h] at H; exact br_t h H
  · rw [if_neg h] at H
    by_cases h3 : 3 < x
    · rw [if_pos h3] at H; exact br_f h (br_t h3 H)
    · rw [if_neg h3] at H; exact br_f h (br_f h3 H)
def ed_mr (h : Nat → Int32) (i e : Nat) : Nat → Int32 := fun j => if i ≤ j ∧ j < e then ed_mi (h j) else h j
theorem ed_mr0 (h : Nat → Int32) (i : Nat) : ed_mr h i i = h := funext fun j => if_neg (by omega)
theorem ed_mrS (h : Nat → Int32) {i e : Nat} (hi : i < e) : ed_mr (upd h i (ed_mi (h i))) (i + 1) e = ed_mr h i e := by
  funext j
  unfold ed_mr
  by_cases z : j = i
  · subst z; rw [if_neg (by omega), if_pos (by omega), pk_us]
  · by_cases c : i ≤ j ∧ j < e
    · rw [if_pos (by omega), if_pos c, pk_un z]
    · rw [if_neg (by omega), if_neg c, pk_un z]
theorem ed_mrC {h : Nat → Int32} (H : ed_cd h) (i e : Nat) : ed_cd (ed_mr h i e) := by
  intro j
  unfold ed_mr
  split
  · exact ed_mi6 (H j)
  · exact H j
theorem ed_xm (post : Int32 → SX → Prop) (c a l : Nat) (hc : c ≤ 60) (hal : a + l ≤ c) (o q : Nat → Int32) : ∀ (d i : Nat) (h : Nat → Int32), i + d = a + l →
    (∀ o' q', tr_R c (ed_mr h i (a + l)) o' q' → post (nI c) (nI c, ed_mr h i (a + l), o', q')) → wX_mirror_21 post (nI a) (nI l) (nI c) (d + 1) (nI i) h o q := by
  intro d
  induction d with
  | zero =>
    intro i h hd H
    rw [show a + l = i from by omega, ed_mr0] at H
    refine br_t ?_ (tr_new _ c hc _ o q H)
    rw [nI_add]
    exact nI_le (by omega) (by omega)
  | succ d ih =>
    intro i h hd H
    have v : vp_in (nI i) 60 := vp_in_nI (by omega) (by omega)
    have ci : (nI i).toNatClampNeg = i := nI_clamp (by omega)
    refine br_f ?_ ⟨v, ed_xmi _ _ ⟨v, nm_r (e' := upd h i (ed_mi (h i))) (by rw [ci]) (nm_r (nI_1 i) (ih (i + 1) _ (by omega) ?_))⟩⟩
    · rw [nI_add]; exact nI_ge (by omega) (by omega)
    · rw [ed_mrS h (by omega)]; exact H
/-- the copy of the stretch into part -/
def ed_cp (h p : Nat → Int32) (a i e : Nat) : Nat → Int32 := fun j => if i ≤ j ∧ j < e then h (a + j) else p j
theorem ed_cp0 (h p : Nat → Int32) (a i : Nat) : ed_cp h p a i i = p := funext fun j => if_neg (by omega)
theorem ed_cpS (h p : Nat → Int32) {a i e : Nat} (hi : i < e) : ed_cp h (upd p i (h (a + i))) a (i + 1) e = ed_cp h p a i e := by
  funext j
  unfold ed_cp
  by_cases z : j = i
  · subst z; rw [if_neg (by omega), if_pos (by omega), pk_us]
  · by_cases c : i ≤ j ∧ j < e
    · rw [if_pos (by omega), if_pos c]
    · rw [if_neg (by omega), if_neg c, pk_un z]
def ed_pm (h p : Nat → Int32) (a i l : Nat) : Nat → Int32 := fun j => if a + i ≤ j ∧ j < a + l then ed_mi (p (l - 1 - (j - a))) else h j
theorem ed_pm0 (h p : Nat → Int32) (a l : Nat) : ed_pm h p a l l = h := funext fun j => if_neg (by omega)
theorem ed_pmS (h p : Nat → Int32) {a i l : Nat} (hi : i < l) : ed_pm (upd h (a + i) (ed_mi (p (l - 1 - i)))) p a (i + 1) l = ed_pm h p a i l := by
  funext j
  unfold ed_pm
  by_cases z : j = a + i
  · subst z; rw [if_neg (by omega), if_pos (by omega), pk_us]; exact congrArg (fun x => ed_mi (p x)) (by omega)
  · by_cases c : a + i ≤ j ∧ j < a + l
    · rw [if_pos (by omega), if_pos c]
    · rw [if_neg (by omega), if_neg c, pk_un z]
theorem ed_y40 (post : Int32 → SY → Prop) (c a l : Nat) (hc : c ≤ 60) (hal : a + l ≤ c) (p : Nat → Int32) : ∀ (d i : Nat) (h : Nat → Int32), i + d = l →
    post (nI c) (nI c, ed_pm h p a i l, p) → wY_mirror_40 post (nI a) (nI l) (nI c) (d + 1) (nI i) h p := by
  intro d
  induction d with
  | zero =>
    intro i h hd H
    rw [show i = l from by omega, ed_pm0] at H
    exact br_t (nI_le (by omega) (by omega)) H
  | succ d ih =>
    intro i h hd H
    have e1 : nI l - 1 - nI i = nI (l - 1 - i) := by
      rw [show (1 : Int32) = nI 1 from rfl, pk_sub (by omega), pk_sub (by omega)]
    have v1 : vp_in (nI l - 1 - nI i) 60 := by rw [e1]; exact vp_in_nI (by omega) (by omega)
    have c1 : (nI l - 1 - nI i).toNatClampNeg = l - 1 - i := by rw [e1]; exact nI_clamp (by omega)
    have e2 : nI a + nI i = nI (a + i) := nI_add a i
    have v2 : vp_in (nI a + nI i) 60 := by rw [e2]; exact vp_in_nI (by omega) (by omega)
    have c2 : (nI a + nI i).toNatClampNeg = a + i := by rw [e2]; exact nI_clamp (by omega)
    rw [← ed_pmS h p (show i < l from by omega)] at H
    refine br_f (nI_ge (by omega) (by omega)) ⟨v1, nm_r (e' := p (l - 1 - i)) (by rw [c1]) ?_⟩
    have K : ∀ x, x = ed_mi (p (l - 1 - i)) → ∀ h', h' = upd h (nI a + nI i).toNatClampNeg x → ∀ y, y = nI i + 1 → wY_mirror_40 post (nI a) (nI l) (nI c) (d + 1) y h' p :=
      fun x ex => nm_r (by rw [c2, ex]) (nm_r (nI_1 i) (ih (i + 1) _ (by omega) H))
    unfold ed_mi at K
    refine br_c (fun z => ⟨v2, K _ (by rw [if_pos z])⟩) (fun z => br_c (fun w => ⟨v2, K _ (by rw [if_neg z, if_pos w])⟩) (fun w => ⟨v2, K _ (by rw [if_neg z, if_neg w])⟩))
theorem ed_y13 (post : Int32 → SY → Prop) (c a l : Nat) (hc : c ≤ 60) (hal : a + l ≤ c) (h : Nat → Int32) : ∀ (d i : Nat) (p : Nat → Int32), i + d = l →
    post (nI c) (nI c, ed_pm h (ed_cp h p a i l) a 0 l, ed_cp h p a i l) → wY_mirror_13 post (nI a) (nI l) (nI c) (d + 1) (nI i) h p := by
  intro d
  induction d with
  | zero =>
    intro i p hd H
    rw [show i = l from by omega, ed_cp0] at H
    exact br_t (nI_le (by omega) (by omega)) ⟨l + 1, ed_y40 post c a l hc hal p l 0 h (by omega) H⟩
  | succ d ih =>
    intro i p hd H
    have e2 : nI a + nI i = nI (a + i) := nI_add a i
    have v2 : vp_in (nI a + nI i) 60 := by rw [e2]; exact vp_in_nI (by omega) (by omega)
    have c2 : (nI a + nI i).toNatClampNeg = a + i := by rw [e2]; exact nI_clamp (by omega)
    have ci : (nI i).toNatClampNeg = i := nI_clamp (by omega)
    refine br_f (nI_ge (by omega) (by omega)) ⟨v2, vp_in_nI (by omega) (by omega), nm_r (e' := upd p i (h (a + i))) (by rw [c2, ci]) (nm_r (nI_1 i) (ih (i + 1) _ (by omega) ?_))⟩
    rw [ed_cpS h p (by omega)]
    exact H
theorem ed_mirEq (g p : Nat → Int32) (a l : Nat) : ed_pm g (ed_cp g p a 0 l) a 0 l = ed_mr (ed_rv g a (a + l)) a (a + l) := by
  funext j
  unfold ed_pm ed_mr
  by_cases c : a ≤ j ∧ j < a + l
  · rw [if_pos (by omega), if_pos c]
    unfold ed_cp ed_rv
    rw [if_pos (by omega), if_pos c]
    exact congrArg (fun x => ed_mi (g x)) (by omega)
  · rw [if_neg (by omega), if_neg c]
    unfold ed_rv
    rw [if_neg c]
/-- the text after i of the pieces were put in at t -/
def ed_mv (E p : Nat → Int32) (t i m : Nat) : Nat → Int32 := fun j => if j < t then E j else if j < t + i then p (j - t) else if j < m + i then E (j - i) else E j
theorem ed_mv0 (E p : Nat → Int32) (t m : Nat) : ed_mv E p t 0 m = E := by
  funext j
  unfold ed_mv
  repeat' split
  all_goals first | rfl | (exfalso; omega)
theorem ed_mvS (E p : Nat → Int32) {t i m : Nat} (ht : t ≤ m) : ed_in (ed_mv E p t i m) (m + i) (t + i) (p i) = ed_mv E p t (i + 1) m := by
  funext j
  unfold ed_in
  by_cases z : j = t + i
  · subst z
    rw [pk_us]
    unfold ed_mv
    rw [if_neg (by omega), if_pos (by omega)]
    exact congrArg p (by omega)
  · rw [pk_un z]
    unfold ed_sh ed_mv
    repeat' split
    all_goals first | rfl | (exfalso; omega) | exact congrArg E (by omega) | exact congrArg p (by omega)
theorem ed_y66 (post : Int32 → SY → Prop) (m t l : Nat) (hm : m + l ≤ 60) (ht : t ≤ m) (E p : Nat → Int32) (hp : ∀ i, i < l → ∃ e : Nat, e ≤ 6 ∧ p i = nI e) : ∀ (d i : Nat), i + d = l →
    post (nI (m + l)) (nI (m + l), ed_mv E p t l m, p) → wY_move_66 post (nI l) (nI t) (d + 1) (nI i) (nI (m + i)) (ed_mv E p t i m) p := by
  intro d
  induction d with
  | zero =>
    intro i hd H
    rw [← show i = l from by omega] at H
    exact br_t (nI_le (by omega) (by omega)) H
  | succ d ih =>
    intro i hd H
    obtain ⟨e, he, hx⟩ := hp i (by omega)
    have ci : (nI i).toNatClampNeg = i := nI_clamp (by omega)
    refine br_f (nI_ge (by omega) (by omega)) ⟨vp_in_nI (by omega) (by omega), ed_yin _ (c := m + i) (a := t + i) (e := e) _ p (by omega) (by omega) he (nI_add t i) (by rw [ci]; exact hx) (nm_r (nI_1 i) ?_)⟩
    rw [← hx, ed_mvS E p ht]
    exact ih (i + 1) (by omega) H
theorem ed_y28 (post : Int32 → SY → Prop) (c a l t : Nat) (hc : c ≤ 60) (hal : a + l ≤ c) (ht : t + l ≤ c) (h : Nat → Int32) (hh : ed_cd h) : ∀ (d i : Nat) (p : Nat → Int32), i + d = l → (∀ j, j < i → p j = h (a + j)) →
    post (nI c) (nI c, ed_mv (ed_er h a (c - l) l) (ed_cp h p a i l) t l (c - l), ed_cp h p a i l) → wY_move_28 post (nI a) (nI l) (nI t) (nI c) (d + 1) (nI i) h p := by
  intro d
  induction d with
  | zero =>
    intro i p hd hp H
    rw [show i = l from by omega, ed_cp0] at H
    refine br_t (nI_le (by omega) (by omega)) ?_
    unfold wpY_erase
    dsimp only
    refine gd_ys c hc h p a l hal _ (br_f (by decide) (ed_yer _ h p hc hal ⟨l + 1, ?_⟩))
    have y := ed_y66 post (c - l) t l (by omega) (by omega) (ed_er h a (c - l) l) p (fun i hi => by rw [hp i (by omega)]; exact hh _) l 0 (by omega)
    rw [ed_mv0, show c - l + l = c from by omega] at y
    exact y H
  | succ d ih =>
    intro i p hd hp H
    have e2 : nI a + nI i = nI (a + i) := nI_add a i
    have v2 : vp_in (nI a + nI i) 60 := by rw [e2]; exact vp_in_nI (by omega) (by omega)
    have c2 : (nI a + nI i).toNatClampNeg = a + i := by rw [e2]; exact nI_clamp (by omega)
    have ci : (nI i).toNatClampNeg = i := nI_clamp (by omega)
    refine br_f (nI_ge (by omega) (by omega)) ⟨v2, vp_in_nI (by omega) (by omega), nm_r (e' := upd p i (h (a + i))) (by rw [c2, ci]) (nm_r (nI_1 i) (ih (i + 1) _ (by omega) ?_ ?_))⟩
    · intro j hj
      by_cases z : j = i
      · subst z; rw [pk_us]
      · rw [pk_un z]; exact hp j (by omega)
    · rw [ed_cpS h p (by omega)]
      exact H
theorem ed_moveR (g p : Nat → Int32) {c a l t : Nat} (hal : a + l ≤ c) (ht : t + l ≤ c) (h : a < t) : ed_mv (ed_er g a (c - l) l) (ed_cp g p a 0 l) t l (c - l) = ed_sw g a (a + l) (t + l) := by
  funext j
  unfold ed_mv ed_er ed_cp ed_sw
  repeat' split
  all_goals first | rfl | (exfalso; omega) | exact congrArg g (by omega)
theorem ed_moveL (g p : Nat → Int32) {c a l t : Nat} (hal : a + l ≤ c) (ht : t + l ≤ c) (h : t ≤ a) : ed_mv (ed_er g a (c - l) l) (ed_cp g p a 0 l) t l (c - l) = ed_sw g t a (a + l) := by
  funext j
  unfold ed_mv ed_er ed_cp ed_sw
  repeat' split
  all_goals first | rfl | (exfalso; omega) | exact congrArg g (by omega)
