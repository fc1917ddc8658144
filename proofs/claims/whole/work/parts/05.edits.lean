/-! the edits: what each loop makes of the text, as a function -/
def ed_cd (g : Nat → Int32) : Prop := ∀ j, ∃ e : Nat, e ≤ 6 ∧ g j = nI e
theorem ed_cdU {g : Nat → Int32} (h : ed_cd g) (i : Nat) {x : Int32} {e : Nat} (he : e ≤ 6) (hx : x = nI e) : ed_cd (upd g i x) := by
  intro j
  by_cases z : j = i
  · subst z; rw [pk_us]; exact ⟨e, he, hx⟩
  · rw [pk_un z]; exact h j
def ed_sh (h : Nat → Int32) (a m : Nat) : Nat → Int32 := fun j => if a < j ∧ j ≤ m then h (j - 1) else h j
theorem ed_sh0 (h : Nat → Int32) (a : Nat) : ed_sh h a a = h := funext fun j => if_neg (by omega)
theorem ed_shS (h : Nat → Int32) {a m : Nat} (ham : a ≤ m) : ed_sh (upd h (m + 1) (h m)) a m = ed_sh h a (m + 1) := by
  funext j
  unfold ed_sh
  by_cases e : j = m + 1
  · subst e; rw [if_neg (by omega), if_pos (by omega), pk_us]; rfl
  · by_cases c : a < j ∧ j ≤ m
    · rw [if_pos c, if_pos (by omega), pk_un (by omega)]
    · rw [if_neg c, if_neg (by omega), pk_un e]
theorem ed_shC {h : Nat → Int32} (H : ed_cd h) (a m : Nat) : ed_cd (ed_sh h a m) := by
  intro j
  unfold ed_sh
  split
  · exact H _
  · exact H _
def ed_in (g : Nat → Int32) (c a : Nat) (x : Int32) : Nat → Int32 := upd (ed_sh g a c) a x
theorem ed_yi (post : Int32 → SY → Prop) (x2 : Int32) (c a : Nat) (hc : c < 60) (p : Nat → Int32) : ∀ (d : Nat) (h : Nat → Int32), a + d ≤ c →
    post (nI (c + 1)) (nI (c + 1), upd (ed_sh h a (a + d)) a x2, p) → wY_insert_41 post (nI a) x2 (nI c) (d + 1) (nI (a + d)) h p := by
  intro d
  induction d with
  | zero =>
    intro h hd H
    rw [show ed_sh h a (a + 0) = h from ed_sh0 h a] at H
    exact br_t (nI_le (by omega) (by omega)) ⟨vp_in_nI (by omega) (by omega), nm_r (by rw [nI_clamp (by omega)]) (nm_r (nI_1 c) H)⟩
  | succ d ih =>
    intro h hd H
    have e1 : nI (a + (d + 1)) - 1 = nI (a + d) := nI_pred (a + d)
    refine br_f (nI_ge (by omega) (by omega)) ⟨?_, vp_in_nI (by omega) (by omega), nm_r (e' := upd h (a + d + 1) (h (a + d))) ?_ (nm_r (pk_m1 (a + d)) (ih _ (by omega) ?_))⟩
    · rw [e1]; exact vp_in_nI (by omega) (by omega)
    · rw [e1, nI_clamp (by omega), nI_clamp (by omega)]; rfl
    · rw [ed_shS h (by omega)]; exact H
theorem ed_xi (post : Int32 → SX → Prop) (x2 : Int32) (c a : Nat) (hc : c < 60) (o q : Nat → Int32) : ∀ (d : Nat) (h : Nat → Int32), a + d ≤ c →
    (∀ o' q', tr_R (c + 1) (upd (ed_sh h a (a + d)) a x2) o' q' → post (nI (c + 1)) (nI (c + 1), upd (ed_sh h a (a + d)) a x2, o', q')) → wX_insert_41 post (nI a) x2 (nI c) (d + 1) (nI (a + d)) h o q := by
  intro d
  induction d with
  | zero =>
    intro h hd H
    rw [show ed_sh h a (a + 0) = h from ed_sh0 h a] at H
    exact br_t (nI_le (by omega) (by omega)) ⟨vp_in_nI (by omega) (by omega), nm_r (by rw [nI_clamp (by omega)]) (nm_r (nI_1 c) (tr_new _ (c + 1) (by omega) _ o q H))⟩
  | succ d ih =>
    intro h hd H
    have e1 : nI (a + (d + 1)) - 1 = nI (a + d) := nI_pred (a + d)
    refine br_f (nI_ge (by omega) (by omega)) ⟨?_, vp_in_nI (by omega) (by omega), nm_r (e' := upd h (a + d + 1) (h (a + d))) ?_ (nm_r (pk_m1 (a + d)) (ih _ (by omega) ?_))⟩
    · rw [e1]; exact vp_in_nI (by omega) (by omega)
    · rw [e1, nI_clamp (by omega), nI_clamp (by omega)]; rfl
    · rw [ed_shS h (by omega)]; exact H
theorem ed_yin (post : Int32 → SY → Prop) {c a e : Nat} (g p : Nat → Int32) {x0 x1 : Int32} (hc : c < 60) (ha : a ≤ c) (he : e ≤ 6) (e0 : x0 = nI a) (e1 : x1 = nI e) (H : post (nI (c + 1)) (nI (c + 1), ed_in g c a (nI e), p)) :
    wpY_insert post (nI c, g, p) x0 x1 := by
  subst e0 e1
  have z : ¬ nI c = 60 := by
    intro z
    have : nI c = nI 60 := z
    rw [nI_eq (by omega) (by omega)] at this
    omega
  refine br_f z (br_f (nI_pos (by omega)) (br_f (nI_nlt ha (by omega)) (br_f (nI_pos (by omega)) (br_t (nI_le (b := 6) he (by decide)) ⟨c - a + 1, ?_⟩))))
  have h := ed_yi post (nI e) c a hc p (c - a) g (by omega)
  rw [show a + (c - a) = c from by omega] at h
  exact h H
theorem ed_xin (post : Int32 → SX → Prop) {c a e : Nat} (g o q : Nat → Int32) (hc : c < 60) (ha : a ≤ c) (H : ∀ o' q', tr_R (c + 1) (ed_in g c a (nI e)) o' q' → post (nI (c + 1)) (nI (c + 1), ed_in g c a (nI e), o', q')) :
    ∃ n, wX_insert_41 post (nI a) (nI e) (nI c) n (nI c) g o q := by
  have h := ed_xi post (nI e) c a hc o q (c - a) g (by omega)
  rw [show a + (c - a) = c from by omega] at h
  exact ⟨c - a + 1, h H⟩
def ed_er (h : Nat → Int32) (b m l : Nat) : Nat → Int32 := fun j => if b ≤ j ∧ j < m then h (j + l) else h j
theorem ed_er0 (h : Nat → Int32) (b l : Nat) : ed_er h b b l = h := funext fun j => if_neg (by omega)
theorem ed_erS (h : Nat → Int32) {b m l : Nat} (hb : b < m) : ed_er (upd h b (h (b + l))) (b + 1) m l = ed_er h b m l := by
  funext j
  unfold ed_er
  by_cases e : j = b
  · subst e; rw [if_neg (by omega), if_pos (by omega), pk_us]
  · by_cases c : b ≤ j ∧ j < m
    · rw [if_pos (by omega), if_pos c, pk_un (by omega)]
    · rw [if_neg (by omega), if_neg c, pk_un e]
theorem ed_erC {h : Nat → Int32} (H : ed_cd h) (b m l : Nat) : ed_cd (ed_er h b m l) := by
  intro j
  unfold ed_er
  split
  · exact H _
  · exact H _
theorem ed_ye (post : Int32 → SY → Prop) (c l m : Nat) (hc : c ≤ 60) (hm : m + l = c) (p : Nat → Int32) : ∀ (d b : Nat) (h : Nat → Int32), b + d = m →
    post (nI m) (nI m, ed_er h b m l, p) → wY_erase_15 post (nI l) (nI c) (d + 1) (nI (b + l)) h p := by
  have em : nI c - nI l = nI m := by rw [pk_sub (by omega)]; exact congrArg nI (by omega)
  intro d
  induction d with
  | zero =>
    intro b h hd H
    rw [show m = b from by omega, ed_er0, show b = m from by omega] at H
    exact br_t (nI_le (by omega) (by omega)) (nm_r em H)
  | succ d ih =>
    intro b h hd H
    have e1 : nI (b + l) - nI l = nI b := by rw [pk_sub (by omega)]; exact congrArg nI (by omega)
    refine br_f (nI_ge (by omega) (by omega)) ⟨vp_in_nI (by omega) (by omega), ?_, nm_r (e' := upd h b (h (b + l))) ?_ (nm_r (e' := nI (b + 1 + l)) ?_ (ih (b + 1) _ (by omega) ?_))⟩
    · rw [e1]; exact vp_in_nI (by omega) (by omega)
    · rw [e1, nI_clamp (by omega), nI_clamp (by omega)]
    · rw [nI_1]; exact congrArg nI (by omega)
    · rw [ed_erS h (by omega)]; exact H
theorem ed_xe (post : Int32 → SX → Prop) (c l m : Nat) (hc : c ≤ 60) (hm : m + l = c) (o q : Nat → Int32) : ∀ (d b : Nat) (h : Nat → Int32), b + d = m →
    (∀ o' q', tr_R m (ed_er h b m l) o' q' → post (nI m) (nI m, ed_er h b m l, o', q')) → wX_erase_15 post (nI l) (nI c) (d + 1) (nI (b + l)) h o q := by
  have em : nI c - nI l = nI m := by rw [pk_sub (by omega)]; exact congrArg nI (by omega)
  intro d
  induction d with
  | zero =>
    intro b h hd H
    rw [show m = b from by omega, ed_er0, show b = m from by omega] at H
    exact br_t (nI_le (by omega) (by omega)) (nm_r em (tr_new _ m (by omega) _ o q H))
  | succ d ih =>
    intro b h hd H
    have e1 : nI (b + l) - nI l = nI b := by rw [pk_sub (by omega)]; exact congrArg nI (by omega)
    refine br_f (nI_ge (by omega) (by omega)) ⟨vp_in_nI (by omega) (by omega), ?_, nm_r (e' := upd h b (h (b + l))) ?_ (nm_r (e' := nI (b + 1 + l)) ?_ (ih (b + 1) _ (by omega) ?_))⟩
    · rw [e1]; exact vp_in_nI (by omega) (by omega)
    · rw [e1, nI_clamp (by omega), nI_clamp (by omega)]
    · rw [nI_1]; exact congrArg nI (by omega)
    · rw [ed_erS h (by omega)]; exact H
theorem ed_yer (post : Int32 → SY → Prop) {c a l : Nat} (g p : Nat → Int32) (hc : c ≤ 60) (h : a + l ≤ c) (H : post (nI (c - l)) (nI (c - l), ed_er g a (c - l) l, p)) :
    ∀ y, y = nI a + nI l → ∃ n, wY_erase_15 post (nI l) (nI c) n y g p :=
  nm_r (nI_add a l) ⟨_, ed_ye post c l (c - l) hc (by omega) p (c - l - a) a g (by omega) H⟩
theorem ed_xer (post : Int32 → SX → Prop) {c a l : Nat} (g o q : Nat → Int32) (hc : c ≤ 60) (h : a + l ≤ c) (H : ∀ o' q', tr_R (c - l) (ed_er g a (c - l) l) o' q' → post (nI (c - l)) (nI (c - l), ed_er g a (c - l) l, o', q')) :
    ∀ y, y = nI a + nI l → ∃ n, wX_erase_15 post (nI l) (nI c) n y g o q :=
  nm_r (nI_add a l) ⟨_, ed_xe post c l (c - l) hc (by omega) o q (c - l - a) a g (by omega) H⟩
def ed_rv (h : Nat → Int32) (f e : Nat) : Nat → Int32 := fun j => if f ≤ j ∧ j < e then h (f + e - 1 - j) else h j
theorem ed_rv0 (h : Nat → Int32) {f e : Nat} (hfe : e ≤ f + 1) : ed_rv h f e = h := by
  funext j
  unfold ed_rv
  split
  · exact congrArg h (by omega)
  · rfl
theorem ed_rvS (h : Nat → Int32) {f t : Nat} (hft : f < t) : ed_rv (upd (upd h f (h t)) t (h f)) (f + 1) t = ed_rv h f (t + 1) := by
  funext j
  unfold ed_rv
  by_cases e : j = f
  · subst e; rw [if_neg (by omega), if_pos (by omega), pk_un (by omega), pk_us]; exact congrArg h (by omega)
  · by_cases e2 : j = t
    · subst e2; rw [if_neg (by omega), if_pos (by omega), pk_us]; exact congrArg h (by omega)
    · by_cases c : f ≤ j ∧ j < t + 1
      · rw [if_pos (by omega), if_pos c, pk_un (by omega), pk_un (by omega)]; exact congrArg h (by omega)
      · rw [if_neg (by omega), if_neg c, pk_un (by omega), pk_un (by omega)]
theorem ed_rvC {h : Nat → Int32} (H : ed_cd h) (f e : Nat) : ed_cd (ed_rv h f e) := by
  intro j
  unfold ed_rv
  split
  · exact H _
  · exact H _
theorem ed_m1 {e l : Nat} (hl : l ≤ 60) (h : e ≤ l + 1) : nI e - 1 ≤ nI l := by
  cases e with
  | zero =>
    rw [Int32.le_iff_toInt_le, nI_toInt (by omega), show (nI 0 - 1).toInt = -1 from by decide]
    omega
  | succ e => rw [nI_pred]; exact nI_le (by omega) (by omega)
theorem ed_xr (post : SX → Prop) (f : Int32) (o q : Nat → Int32) : ∀ (d l e : Nat) (h : Nat → Int32), e ≤ 60 → l ≤ 60 → e ≤ l + 2 * d + 1 →
    post (f, ed_rv h l e, o, q) → wX_reverse_7 post f (d + 1) (nI e - 1) (nI l) h o q := by
  intro d
  induction d with
  | zero =>
    intro l e h he hl hd H
    rw [ed_rv0 h (by omega)] at H
    exact br_t (ed_m1 hl (by omega)) H
  | succ d ih =>
    intro l e h he hl hd H
    by_cases c : e ≤ l + 1
    · rw [ed_rv0 h c] at H
      exact br_t (ed_m1 hl c) H
    · obtain ⟨t, rfl⟩ : ∃ t, e = t + 1 := ⟨e - 1, by omega⟩
      rw [nI_pred]
      have vl : vp_in (nI l) 60 := vp_in_nI (by omega) (by omega)
      have vt : vp_in (nI t) 60 := vp_in_nI (by omega) (by omega)
      have cl : (nI l).toNatClampNeg = l := nI_clamp (by omega)
      have ct : (nI t).toNatClampNeg = t := nI_clamp (by omega)
      refine br_f (nI_ge (by omega) (by omega)) ⟨vl, nm_r (e' := h l) (by rw [cl]) ⟨vt, vl, nm_r (e' := upd h l (h t)) (by rw [cl, ct]) ⟨vt, nm_r (e' := upd (upd h l (h t)) t (h l)) (by rw [ct]) (nm_r (e' := nI t - 1) (Int32.sub_eq_add_neg ..).symm (nm_r (nI_1 l) (ih (l + 1) t _ (by omega) (by omega) (by omega) ?_)))⟩⟩⟩
      rw [ed_rvS h (by omega)]
      exact H
theorem ed_xrev (post : SX → Prop) (f : Int32) (g o q : Nat → Int32) {l e : Nat} {x1 : Int32} (he : e ≤ 60) (hl : l ≤ 60) (e1 : x1 = nI e) (H : post (f, ed_rv g l e, o, q)) : wpX_reverse post (f, g, o, q) (nI l) x1 := by
  subst e1
  exact nm_e ⟨61, ed_xr post f o q 60 l e g he hl (by omega) H⟩
def ed_sw (g : Nat → Int32) (a b e : Nat) : Nat → Int32 := fun j => if a ≤ j ∧ j < a + (e - b) then g (j + (b - a)) else if a + (e - b) ≤ j ∧ j < e then g (j - (e - b)) else g j
theorem ed_rv3 (g : Nat → Int32) {a b e : Nat} (h1 : a ≤ b) (h2 : b ≤ e) : ed_rv (ed_rv (ed_rv g a b) b e) a e = ed_sw g a b e := by
  funext j
  unfold ed_rv ed_sw
  repeat' split
  all_goals first | rfl | (exfalso; omega) | exact congrArg g (by omega)
theorem ed_swC {h : Nat → Int32} (H : ed_cd h) (a b e : Nat) : ed_cd (ed_sw h a b e) := by
  intro j
  unfold ed_sw
  split
  · exact H _
  · split
    · exact H _
    · exact H _
theorem ed_xsw (post : SX → Prop) (f : Int32) (g o q : Nat → Int32) {a b e : Nat} {x1 x2 : Int32} (h1 : a ≤ b) (h2 : b ≤ e) (h3 : e ≤ 60) (e1 : x1 = nI b) (e2 : x2 = nI e) (H : post (f, ed_sw g a b e, o, q)) :
    wpX_swapNeighbours post (f, g, o, q) (nI a) x1 x2 := by
  subst e1 e2
  rw [← ed_rv3 g h1 h2] at H
  unfold wpX_swapNeighbours
  dsimp only
  refine ed_xrev _ f g o q (by omega) (by omega) rfl ?_
  refine ed_xrev _ f _ o q (by omega) (by omega) rfl ?_
  refine ed_xrev _ f _ o q (by omega) (by omega) rfl ?_
  exact H
