section
/-! rows taken from kit/rows -/
theorem pk_us {f : Nat → Int32} {k : Nat} {x : Int32} : upd f k x k = x := if_pos rfl
theorem pk_un {f : Nat → Int32} {k j : Nat} {x : Int32} (h : j ≠ k) : upd f k x j = f j := if_neg h
theorem pk_sub {a b : Nat} (h : b ≤ a) : nI a - nI b = nI (a - b) := by
  obtain ⟨c, rfl⟩ : ∃ c, a = c + b := ⟨a - b, by omega⟩
  rw [← nI_add, Int32.add_sub_cancel, Nat.add_sub_cancel]
theorem pk_m1 (n : Nat) : nI (n + 1) + (-1) = nI n := by
  rw [← nI_1, Int32.add_assoc, show (1 : Int32) + (-1) = 0 from rfl, Int32.add_zero]
theorem pk_mul (a b : Nat) : nI a * nI b = nI (a * b) := (Int32.ofNat_mul a b).symm
theorem pk_div {a d : Nat} (ha : a < 2 ^ 31) (h0 : 0 < d) (hd : d < 2 ^ 31) : nI a / nI d = nI (a / d) := by
  apply Int32.toInt_inj.mp
  rw [lg_idiv_nonneg (by rw [nI_toInt ha]; omega) (by rw [nI_toInt hd]; omega), nI_toInt ha, nI_toInt hd, nI_toInt (Nat.lt_of_le_of_lt (Nat.div_le_self a d) ha)]
  first | rfl | exact (Int.natCast_ediv _ _).symm
theorem pk_rem {a d : Nat} (ha : a < 2 ^ 31) (h0 : 0 < d) (hd : d < 2 ^ 31) : nI a - nI a / nI d * nI d = nI (a % d) := by
  rw [pk_div ha h0 hd, pk_mul, pk_sub (Nat.div_mul_le_self a d)]
  exact congrArg nI (by have := Nat.div_add_mod' a d; omega)
theorem pk_sub_toInt {a b : Nat} (ha : a < 2 ^ 30) (hb : b < 2 ^ 30) : (nI a - nI b).toInt = (a : Int) - b := by
  rw [Int32.toInt_sub, nI_toInt (by omega), nI_toInt (by omega)]
  exact Int.bmod_eq_of_le (by omega) (by omega)
theorem pk_sneg {a b : Nat} (hb : b < 2 ^ 30) (h : a < b) : nI a - nI b < 0 := by
  rw [Int32.lt_iff_toInt_lt, pk_sub_toInt (by omega) hb, show (0 : Int32).toInt = 0 from by decide]
  omega
theorem pk_le {x y : Int32} {A B : Prop} (a b : Nat) (f : a ≤ b → A) (g : b < a → B) (hx : x = nI a := by rfl) (hy : y = nI b := by rfl) (ha : a < 2 ^ 31 := by omega) (hb : b < 2 ^ 31 := by omega) : (x ≤ y → A) ∧ (¬ x ≤ y → B) := by
  subst hx hy
  rw [nI_leI ha hb]
  exact ⟨f, fun z => g (by omega)⟩
theorem pk_lt {x y : Int32} {A B : Prop} (a b : Nat) (f : a < b → A) (g : b ≤ a → B) (hx : x = nI a := by rfl) (hy : y = nI b := by rfl) (ha : a < 2 ^ 31 := by omega) (hb : b < 2 ^ 31 := by omega) : (x < y → A) ∧ (¬ x < y → B) := by
  subst hx hy
  rw [nI_ltI ha hb]
  exact ⟨f, fun z => g (by omega)⟩
theorem pk_eq {x y : Int32} {A B : Prop} (a b : Nat) (f : a = b → A) (g : a ≠ b → B) (hx : x = nI a := by rfl) (hy : y = nI b := by rfl) (ha : a < 2 ^ 31 := by omega) (hb : b < 2 ^ 31 := by omega) : (x = y → A) ∧ (¬ x = y → B) := by
  subst hx hy
  rw [nI_eq ha hb]
  exact ⟨f, g⟩
theorem pk_in {x : Int32} (n N : Nat) (h : n < N) (hx : x = nI n := by rfl) (hN : N < 2 ^ 31 := by omega) : vp_in x N := by
  subst hx
  exact vp_in_nI h hN
theorem pk_cl {x : Int32} (n : Nat) (hx : x = nI n := by rfl) (h : n < 2 ^ 31 := by omega) : x.toNatClampNeg = n := by
  subst hx
  exact nI_clamp h
theorem pk_tn {n : Nat} (h : n < 2 ^ 32) : (nI n).toBitVec.toNat = n := Nat.mod_eq_of_lt h
theorem pk_and (x : Int32) {m : Int32} (k : Nat) (hm : m.toBitVec.toNat = 2 ^ k - 1) : x &&& m = nI (x.toBitVec.toNat % 2 ^ k) := by
  apply Int32.toBitVec_inj.mp
  apply BitVec.eq_of_toNat_eq
  rw [Int32.toBitVec_and, BitVec.toNat_and, hm, Nat.and_two_pow_sub_one_eq_mod]
  show _ = (BitVec.ofNat 32 _).toNat
  rw [BitVec.toNat_ofNat]
  exact (Nat.mod_eq_of_lt (Nat.lt_of_le_of_lt (Nat.mod_le _ _) x.toBitVec.isLt)).symm
theorem pk_andN {n : Nat} (h : n < 2 ^ 32) {m : Int32} (k : Nat) (hm : m.toBitVec.toNat = 2 ^ k - 1) : nI n &&& m = nI (n % 2 ^ k) := by
  rw [pk_and _ k hm, pk_tn h]
theorem pk_shl (a s : Int32) (k : Nat) (hs : (s.toBitVec.smod 32).toNat = k) : (a <<< s).toBitVec.toNat = a.toBitVec.toNat * 2 ^ k % 2 ^ 32 := by
  show (a.toBitVec <<< (s.toBitVec.smod 32).toNat).toNat = _
  rw [hs, BitVec.toNat_shiftLeft, Nat.shiftLeft_eq]
theorem pk_shlN {n : Nat} (s : Int32) (k : Nat) (hs : (s.toBitVec.smod 32).toNat = k) (h : n * 2 ^ k < 2 ^ 32) : nI n <<< s = nI (n * 2 ^ k) := by
  apply Int32.toBitVec_inj.mp
  apply BitVec.eq_of_toNat_eq
  have hn : n < 2 ^ 32 := Nat.lt_of_le_of_lt (Nat.le_mul_of_pos_right n (Nat.two_pow_pos k)) h
  rw [pk_shl _ _ k hs, pk_tn hn, pk_tn h, Nat.mod_eq_of_lt h]
theorem pk_shr (a s : Int32) (k : Nat) (hs : (s.toBitVec.smod 32).toNat = k) : (a >>> s).toInt = a.toInt >>> k := by
  show (a.toBitVec.sshiftRight (s.toBitVec.smod 32).toNat).toInt = _
  rw [hs, BitVec.toInt_sshiftRight]
  rfl
theorem pk_shrN {n : Nat} (h : n < 2 ^ 31) (s : Int32) (k : Nat) (hs : (s.toBitVec.smod 32).toNat = k) : nI n >>> s = nI (n / 2 ^ k) := by
  apply Int32.toInt_inj.mp
  have h2 : n / 2 ^ k ≤ n := Nat.div_le_self _ _
  rw [pk_shr _ _ k hs, nI_toInt h, nI_toInt (by omega), Int.shiftRight_eq_div_pow]
  rfl
theorem s_l : ∀ n, n < 32 → ((nI n &&& 31).toBitVec.smod 32).toNat = n := by decide +kernel
end
section
/-! a stretch of signs (1 opens, -1 closes) read alone: how many openings and closings stay loose -/
def hs_p (s : Nat → Int) (a : Nat) : Nat → Nat × Nat
  | 0 => (0, 0)
  | n + 1 =>
    if s (a + n) = 1 then ((hs_p s a n).1 + 1, (hs_p s a n).2)
    else if s (a + n) = -1 then ((hs_p s a n).1 - 1, if (hs_p s a n).1 = 0 then (hs_p s a n).2 + 1 else (hs_p s a n).2)
    else hs_p s a n
theorem hs_s1 {s : Nat → Int} {a n : Nat} (h : s (a + n) = 1) : hs_p s a (n + 1) = ((hs_p s a n).1 + 1, (hs_p s a n).2) := by
  rw [hs_p, if_pos h]
theorem hs_s2 {s : Nat → Int} {a n : Nat} (h : s (a + n) = -1) : hs_p s a (n + 1) = ((hs_p s a n).1 - 1, if (hs_p s a n).1 = 0 then (hs_p s a n).2 + 1 else (hs_p s a n).2) := by
  rw [hs_p, if_neg (by rw [h]; decide), if_pos h]
theorem hs_s3 {s : Nat → Int} {a n : Nat} (h : ¬ s (a + n) = 1) (h2 : ¬ s (a + n) = -1) : hs_p s a (n + 1) = hs_p s a n := by
  rw [hs_p, if_neg h, if_neg h2]
theorem hs_pm (s : Nat → Int) (a m n : Nat) : (hs_p s a (m + n)).1 = (hs_p s (a + m) n).1 + ((hs_p s a m).1 - (hs_p s (a + m) n).2) ∧ (hs_p s a (m + n)).2 = (hs_p s a m).2 + ((hs_p s (a + m) n).2 - (hs_p s a m).1) := by
  induction n with
  | zero => simp [hs_p]
  | succ n ih =>
    obtain ⟨i1, i2⟩ := ih
    have e : s (a + (m + n)) = s (a + m + n) := by rw [Nat.add_assoc]
    by_cases h1 : s (a + m + n) = 1
    · rw [show m + (n + 1) = (m + n) + 1 from rfl, hs_s1 (e.trans h1), hs_s1 h1]
      dsimp only
      omega
    · by_cases h2 : s (a + m + n) = -1
      · rw [show m + (n + 1) = (m + n) + 1 from rfl, hs_s2 (e.trans h2), hs_s2 h2]
        dsimp only
        constructor
        · split <;> omega
        · split <;> split <;> omega
      · rw [show m + (n + 1) = (m + n) + 1 from rfl, hs_s3 (by rw [e]; exact h1) (by rw [e]; exact h2), hs_s3 h1 h2]
        exact ⟨i1, i2⟩
theorem hs_ple (s : Nat → Int) (a n : Nat) : (hs_p s a n).1 ≤ n ∧ (hs_p s a n).2 ≤ n := by
  induction n with
  | zero => simp [hs_p]
  | succ n ih =>
    obtain ⟨i1, i2⟩ := ih
    by_cases h1 : s (a + n) = 1
    · rw [hs_s1 h1]; dsimp only; omega
    · by_cases h2 : s (a + n) = -1
      · rw [hs_s2 h2]; dsimp only
        constructor
        · omega
        · split <;> omega
      · rw [hs_s3 h1 h2]; omega
theorem hs_pz (s : Nat → Int) (h : ∀ j, s j = 0) (a n : Nat) : hs_p s a n = (0, 0) := by
  induction n with
  | zero => rfl
  | succ n ih => rw [hs_s3 (by rw [h]; decide) (by rw [h]; decide), ih]
def hs_o (s : Nat → Int) (a b : Nat) : Nat := (hs_p s a (b - a)).1
def hs_c (s : Nat → Int) (a b : Nat) : Nat := (hs_p s a (b - a)).2
theorem hs_om (s : Nat → Int) {a m b : Nat} (h1 : a ≤ m) (h2 : m ≤ b) : hs_o s a b = hs_o s m b + (hs_o s a m - hs_c s m b) := by
  have h := (hs_pm s a (m - a) (b - m)).1
  rw [show m - a + (b - m) = b - a from by omega, show a + (m - a) = m from by omega] at h
  exact h
theorem hs_cm (s : Nat → Int) {a m b : Nat} (h1 : a ≤ m) (h2 : m ≤ b) : hs_c s a b = hs_c s a m + (hs_c s m b - hs_o s a m) := by
  have h := (hs_pm s a (m - a) (b - m)).2
  rw [show m - a + (b - m) = b - a from by omega, show a + (m - a) = m from by omega] at h
  exact h
theorem hs_ole (s : Nat → Int) (a b : Nat) : hs_o s a b ≤ b - a := (hs_ple s a (b - a)).1
theorem hs_cle (s : Nat → Int) (a b : Nat) : hs_c s a b ≤ b - a := (hs_ple s a (b - a)).2
theorem hs_oo (s : Nat → Int) (a : Nat) : hs_o s a a = 0 := by have := hs_ole s a a; omega
theorem hs_cc (s : Nat → Int) (a : Nat) : hs_c s a a = 0 := by have := hs_cle s a a; omega
theorem hs_oz (s : Nat → Int) (h : ∀ j, s j = 0) (a b : Nat) : hs_o s a b = 0 := by unfold hs_o; rw [hs_pz s h]
theorem hs_cz (s : Nat → Int) (h : ∀ j, s j = 0) (a b : Nat) : hs_c s a b = 0 := by unfold hs_c; rw [hs_pz s h]
/-- one sign alone -/
theorem hs_1 (s : Nat → Int) (j : Nat) : (s j = 1 ∧ hs_o s j (j + 1) = 1 ∧ hs_c s j (j + 1) = 0) ∨ (s j = -1 ∧ hs_o s j (j + 1) = 0 ∧ hs_c s j (j + 1) = 1) ∨ (s j ≠ 1 ∧ s j ≠ -1 ∧ hs_o s j (j + 1) = 0 ∧ hs_c s j (j + 1) = 0) := by
  unfold hs_o hs_c
  rw [show j + 1 - j = 0 + 1 from by omega]
  by_cases h1 : s j = 1
  · exact Or.inl ⟨h1, by rw [hs_s1 (a := j) (n := 0) h1]; exact ⟨rfl, rfl⟩⟩
  · by_cases h2 : s j = -1
    · exact Or.inr (Or.inl ⟨h2, by rw [hs_s2 (a := j) (n := 0) h2]; exact ⟨rfl, rfl⟩⟩)
    · exact Or.inr (Or.inr ⟨h1, h2, by rw [hs_s3 (a := j) (n := 0) h1 h2]; exact ⟨rfl, rfl⟩⟩)
theorem hs_omono (s : Nat → Int) {a m b : Nat} (h1 : a ≤ m) (h2 : m ≤ b) : hs_o s m b ≤ hs_o s a b := by
  rw [hs_om s h1 h2]; omega
theorem hs_cmono (s : Nat → Int) {a m b : Nat} (h1 : a ≤ m) (h2 : m ≤ b) : hs_c s a m ≤ hs_c s a b := by
  rw [hs_cm s h1 h2]; omega
/-- a pair: an opening, a closing, and nothing loose in between -/
def hs_pr (s : Nat → Int) (i j : Nat) : Prop := i < j ∧ s i = 1 ∧ s j = -1 ∧ hs_o s (i + 1) j = 0 ∧ hs_c s (i + 1) j = 0
theorem hs_prR (s : Nat → Int) {i j : Nat} (hij : i < j) (hi : s i = 1) : hs_pr s i j ↔ (hs_c s (i + 1) j = 0 ∧ 1 ≤ hs_c s (i + 1) (j + 1)) := by
  have m := hs_cm s (a := i + 1) (m := j) (b := j + 1) (by omega) (by omega)
  have u := hs_1 s j
  unfold hs_pr
  constructor
  · rintro ⟨_, _, a, b, c⟩
    refine ⟨c, ?_⟩
    rcases u with ⟨x, _⟩ | ⟨x, y, z⟩ | ⟨_, x, _⟩
    · rw [x] at a; exact absurd a (by decide)
    · omega
    · exact absurd a x
  · rintro ⟨a, b⟩
    rcases u with ⟨x, y, z⟩ | ⟨x, y, z⟩ | ⟨_, x, y, z⟩
    · omega
    · exact ⟨hij, hi, x, by omega, a⟩
    · omega
theorem hs_prL (s : Nat → Int) {i j : Nat} (hij : i < j) (hj : s j = -1) : hs_pr s i j ↔ (hs_o s (i + 1) j = 0 ∧ 1 ≤ hs_o s i j) := by
  have m := hs_om s (a := i) (m := i + 1) (b := j) (by omega) (by omega)
  have u := hs_1 s i
  unfold hs_pr
  constructor
  · rintro ⟨_, a, _, b, c⟩
    refine ⟨b, ?_⟩
    rcases u with ⟨x, y, z⟩ | ⟨x, _⟩ | ⟨x, _⟩
    · omega
    · rw [x] at a; exact absurd a (by decide)
    · exact absurd a x
  · rintro ⟨a, b⟩
    rcases u with ⟨x, y, z⟩ | ⟨x, y, z⟩ | ⟨_, x, y, z⟩
    · exact ⟨hij, x, hj, a, by omega⟩
    · omega
    · omega
theorem hs_prUR (s : Nat → Int) {i j k : Nat} (h : hs_pr s i j) (h2 : hs_pr s i k) : j = k := by
  have a := (hs_prR s h.1 h.2.1).mp h
  have b := (hs_prR s h2.1 h2.2.1).mp h2
  have hj := h.1
  have hk := h2.1
  by_cases e : j < k
  · have := hs_cmono s (a := i + 1) (m := j + 1) (b := k) (by omega) (by omega)
    omega
  · by_cases e2 : k < j
    · have := hs_cmono s (a := i + 1) (m := k + 1) (b := j) (by omega) (by omega)
      omega
    · omega
theorem hs_fr (f : Nat → Nat) (m b : Nat) (h : m ≤ b) (h0 : f m = 0) (h1 : 1 ≤ f b) : ∃ j, m ≤ j ∧ j < b ∧ f j = 0 ∧ 1 ≤ f (j + 1) := by
  obtain ⟨d, rfl⟩ : ∃ d, b = m + d := ⟨b - m, by omega⟩
  clear h
  induction d with
  | zero => rw [Nat.add_zero, h0] at h1; exact absurd h1 (by decide)
  | succ d ih =>
    by_cases z : 1 ≤ f (m + d)
    · obtain ⟨j, a, b, c, e⟩ := ih z
      exact ⟨j, a, by omega, c, e⟩
    · exact ⟨m + d, by omega, by omega, by omega, h1⟩
theorem hs_fl (f : Nat → Nat) (m b : Nat) (h : m ≤ b) (h0 : f b = 0) (h1 : 1 ≤ f m) : ∃ j, m ≤ j ∧ j < b ∧ 1 ≤ f j ∧ f (j + 1) = 0 := by
  obtain ⟨d, rfl⟩ : ∃ d, b = m + d := ⟨b - m, by omega⟩
  clear h
  induction d with
  | zero => rw [Nat.add_zero] at h0; rw [h0] at h1; exact absurd h1 (by decide)
  | succ d ih =>
    by_cases z : f (m + d) = 0
    · obtain ⟨j, a, b, c, e⟩ := ih z
      exact ⟨j, a, by omega, c, e⟩
    · exact ⟨m + d, by omega, by omega, by omega, h0⟩
/-- an opening at i has its partner in [m, b) -/
theorem hs_exR (s : Nat → Int) {i m b : Nat} (him : i < m) (hmb : m ≤ b) : (∃ j, m ≤ j ∧ j < b ∧ hs_pr s i j) ↔ (s i = 1 ∧ hs_c s (i + 1) m = 0 ∧ 1 ≤ hs_c s (i + 1) b) := by
  constructor
  · rintro ⟨j, a, c, h⟩
    have e := (hs_prR s h.1 h.2.1).mp h
    have x := hs_cmono s (a := i + 1) (m := m) (b := j) (by omega) (by omega)
    have y := hs_cmono s (a := i + 1) (m := j + 1) (b := b) (by omega) (by omega)
    exact ⟨h.2.1, by omega, by omega⟩
  · rintro ⟨a, c, e⟩
    obtain ⟨j, x, y, z, w⟩ := hs_fr (fun j => hs_c s (i + 1) j) m b hmb c e
    exact ⟨j, x, y, (hs_prR s (by omega) a).mpr ⟨z, w⟩⟩
/-- a closing at j has its partner in [a, j) -/
theorem hs_exL (s : Nat → Int) {a j : Nat} (haj : a ≤ j) : (∃ i, a ≤ i ∧ i < j ∧ hs_pr s i j) ↔ (s j = -1 ∧ 1 ≤ hs_o s a j) := by
  constructor
  · rintro ⟨i, x, y, h⟩
    have e := (hs_prL s h.1 h.2.2.1).mp h
    have z := hs_omono s (a := a) (m := i) (b := j) (by omega) (by omega)
    exact ⟨h.2.2.1, by omega⟩
  · rintro ⟨x, y⟩
    obtain ⟨i, p, q, z, w⟩ := hs_fl (fun i => hs_o s i j) a j haj (hs_oo s j) y
    exact ⟨i, p, q, (hs_prL s (by omega) x).mpr ⟨w, z⟩⟩
/-- how many openings loose in [i, b) the sign at i adds -/
theorem hs_stO (s : Nat → Int) {i b : Nat} (h : i < b) : (s i = 1 ∧ (¬ ∃ j, i + 1 ≤ j ∧ j < b ∧ hs_pr s i j) ∧ hs_o s i b = hs_o s (i + 1) b + 1) ∨ ((¬ s i = 1 ∨ ∃ j, i + 1 ≤ j ∧ j < b ∧ hs_pr s i j) ∧ hs_o s i b = hs_o s (i + 1) b) := by
  have m := hs_om s (a := i) (m := i + 1) (b := b) (by omega) (by omega)
  have x := hs_exR s (i := i) (m := i + 1) (b := b) (by omega) (by omega)
  have z := hs_cc s (i + 1)
  rcases hs_1 s i with ⟨p, q, r⟩ | ⟨p, q, r⟩ | ⟨p, _, q, r⟩
  · by_cases c : 1 ≤ hs_c s (i + 1) b
    · exact Or.inr ⟨Or.inr (x.mpr ⟨p, z, c⟩), by clear x; omega⟩
    · exact Or.inl ⟨p, fun y => c (x.mp y).2.2, by clear x; omega⟩
  · exact Or.inr ⟨Or.inl (by rw [p]; decide), by clear x; omega⟩
  · exact Or.inr ⟨Or.inl p, by clear x; omega⟩
/-- how many closings loose in [a, j] the sign at j adds -/
theorem hs_stC (s : Nat → Int) {a j : Nat} (h : a ≤ j) : (s j = -1 ∧ (¬ ∃ i, a ≤ i ∧ i < j ∧ hs_pr s i j) ∧ hs_c s a (j + 1) = hs_c s a j + 1) ∨ ((¬ s j = -1 ∨ ∃ i, a ≤ i ∧ i < j ∧ hs_pr s i j) ∧ hs_c s a (j + 1) = hs_c s a j) := by
  have m := hs_cm s (a := a) (m := j) (b := j + 1) (by omega) (by omega)
  have x := hs_exL s (a := a) (j := j) h
  rcases hs_1 s j with ⟨p, q, r⟩ | ⟨p, q, r⟩ | ⟨_, p, q, r⟩
  · exact Or.inr ⟨Or.inl (by rw [p]; decide), by clear x; omega⟩
  · by_cases c : 1 ≤ hs_o s a j
    · exact Or.inr ⟨Or.inr (x.mpr ⟨p, c⟩), by clear x; omega⟩
    · exact Or.inl ⟨p, fun y => c (x.mp y).2, by clear x; omega⟩
  · exact Or.inr ⟨Or.inl p, by clear x; omega⟩
/-- an opening at i left of the cut m has its partner right of it, within e -/
theorem hs_crs (s : Nat → Int) {i m e : Nat} (him : i < m) (hme : m ≤ e) : ((∃ j, m ≤ j ∧ j < e ∧ hs_pr s i j) ∧ hs_o s i m = hs_o s (i + 1) m + 1 ∧ hs_o s (i + 1) m < hs_c s m e) ∨ ((¬ ∃ j, m ≤ j ∧ j < e ∧ hs_pr s i j) ∧ (hs_o s i m = hs_o s (i + 1) m ∨ (hs_o s i m = hs_o s (i + 1) m + 1 ∧ hs_c s m e ≤ hs_o s (i + 1) m))) := by
  have x := hs_exR s (i := i) (m := m) (b := e) him hme
  have y := hs_om s (a := i) (m := i + 1) (b := m) (by omega) (by omega)
  have z := hs_cm s (a := i + 1) (m := m) (b := e) (by omega) hme
  by_cases c : ∃ j, m ≤ j ∧ j < e ∧ hs_pr s i j
  · obtain ⟨p, q, r⟩ := x.mp c
    refine Or.inl ⟨c, ?_⟩
    rcases hs_1 s i with ⟨_, b, d⟩ | ⟨a, b, d⟩ | ⟨a, _, b, d⟩
    · omega
    · rw [a] at p; exact absurd p (by decide)
    · exact absurd p a
  · refine Or.inr ⟨c, ?_⟩
    rcases hs_1 s i with ⟨a, b, d⟩ | ⟨a, b, d⟩ | ⟨a, _, b, d⟩
    · by_cases f : hs_c s (i + 1) m = 0
      · have g : ¬ 1 ≤ hs_c s (i + 1) e := fun g => c (x.mpr ⟨a, f, g⟩)
        omega
      · omega
    · omega
    · omega
/-- the sign of the code at j for kind k, in a text of c codes -/
def hs_g (c : Nat) (g : Nat → Int32) (k j : Nat) : Int := if j < c then (if g j = nI k then 1 else if g j = nI (k + 3) then -1 else 0) else 0
theorem hs_kne {k : Nat} (hk : k ≤ 3) : ¬ nI (k + 3) = nI k := by rw [nI_eq (by omega) (by omega)]; omega
theorem hs_g1 {c : Nat} {g : Nat → Int32} {k j : Nat} (hj : j < c) : hs_g c g k j = 1 ↔ g j = nI k := by
  unfold hs_g
  rw [if_pos hj]
  by_cases h : g j = nI k
  · rw [if_pos h]; simp [h]
  · rw [if_neg h]
    constructor
    · intro z; split at z <;> exact absurd z (by decide)
    · intro z; exact absurd z h
theorem hs_g2 {c : Nat} {g : Nat → Int32} {k j : Nat} (hk : k ≤ 3) (hj : j < c) : hs_g c g k j = -1 ↔ g j = nI (k + 3) := by
  unfold hs_g
  rw [if_pos hj]
  by_cases h : g j = nI k
  · rw [if_pos h]
    constructor
    · intro z; exact absurd z (by decide)
    · intro z; exact absurd (z.symm.trans h) (hs_kne hk)
  · rw [if_neg h]
    by_cases h2 : g j = nI (k + 3)
    · rw [if_pos h2]; simp [h2]
    · rw [if_neg h2]
      constructor
      · intro z; exact absurd z (by decide)
      · intro z; exact absurd z h2
theorem hs_g0 {c : Nat} {g : Nat → Int32} {k j : Nat} (hj : c ≤ j) : hs_g c g k j = 0 := by
  unfold hs_g
  rw [if_neg (by omega)]
end
section
/-! the tests at the head of a call, both sides -/
theorem gd_st (c : Nat) (hc : c ≤ 60) (g o q p : Nat → Int32) (p0 p1 : Int32) :
    (∃ a l : Nat, a + l ≤ c ∧ p0 = nI a ∧ p1 = nI l ∧ (∀ post : Int32 → Prop, post 1 → wpX_isStretch post (nI c, g, o, q) p0 p1) ∧ (∀ post : Int32 → Prop, post 1 → wpY_isStretch post (nI c, g, p) p0 p1)) ∨
    ((∀ post : Int32 → Prop, post 0 → wpX_isStretch post (nI c, g, o, q) p0 p1) ∧ (∀ post : Int32 → Prop, post 0 → wpY_isStretch post (nI c, g, p) p0 p1)) := by
  by_cases h0 : p0 < 0
  · exact Or.inr ⟨fun post hp => br_t h0 hp, fun post hp => br_t h0 hp⟩
  · by_cases h1 : p1 < 0
    · exact Or.inr ⟨fun post hp => br_f h0 (br_c (fun _ => hp) (fun _ => br_t h1 hp)), fun post hp => br_f h0 (br_t h1 hp)⟩
    · obtain ⟨a, ha, rfl⟩ := nI_of h0
      obtain ⟨l, hl, rfl⟩ := nI_of h1
      by_cases h2 : nI c < nI a
      · exact Or.inr ⟨fun post hp => br_f h0 (br_t h2 hp), fun post hp => br_f h0 (br_f h1 (br_t h2 hp))⟩
      · have ac : a ≤ c := by rw [nI_ltI (by omega) ha] at h2; omega
        have e : nI c - nI a = nI (c - a) := pk_sub ac
        by_cases h3 : nI c - nI a < nI l
        · exact Or.inr ⟨fun post hp => br_f h0 (br_f h2 (br_f h1 (br_t h3 hp))), fun post hp => br_f h0 (br_f h1 (br_f h2 (br_t h3 hp)))⟩
        · have lc : l ≤ c - a := by rw [e, nI_ltI (by omega) hl] at h3; omega
          exact Or.inl ⟨a, l, by omega, rfl, rfl, fun post hp => br_f h0 (br_f h2 (br_f h1 (br_f h3 hp))), fun post hp => br_f h0 (br_f h1 (br_f h2 (br_f h3 hp)))⟩
theorem gd_ys (c : Nat) (hc : c ≤ 60) (g p : Nat → Int32) (a l : Nat) (h : a + l ≤ c) (post : Int32 → Prop) (hp : post 1) : wpY_isStretch post (nI c, g, p) (nI a) (nI l) := by
  refine br_f (nI_pos (by omega)) (br_f (nI_pos (by omega)) (br_f (nI_nlt (by omega) (by omega)) (br_f ?_ hp)))
  rw [pk_sub (by omega)]
  exact nI_nlt (by omega) (by omega)
theorem gd_po (c : Nat) (hc : c ≤ 60) (g o q p : Nat → Int32) (p0 : Int32) :
    (∃ a : Nat, a < c ∧ p0 = nI a ∧ (∀ post : Int32 → Prop, post 1 → wpX_isPosition post (nI c, g, o, q) p0) ∧ (∀ post : Int32 → Prop, post 1 → wpY_isPlace post (nI c, g, p) p0)) ∨
    ((∀ post : Int32 → Prop, post 0 → wpX_isPosition post (nI c, g, o, q) p0) ∧ (∀ post : Int32 → Prop, post 0 → wpY_isPlace post (nI c, g, p) p0)) := by
  by_cases h0 : p0 < 0
  · exact Or.inr ⟨fun post hp => br_t h0 hp, fun post hp => br_t h0 hp⟩
  · obtain ⟨a, ha, rfl⟩ := nI_of h0
    by_cases h2 : nI c ≤ nI a
    · exact Or.inr ⟨fun post hp => br_f h0 (br_t h2 hp), fun post hp => br_f h0 (br_t h2 hp)⟩
    · have ac : a < c := by rw [nI_leI (by omega) ha] at h2; omega
      exact Or.inl ⟨a, ac, rfl, fun post hp => br_f h0 (br_f h2 hp), fun post hp => br_f h0 (br_f h2 hp)⟩
theorem gd_k (x : Int32) : (∃ k : Nat, 1 ≤ k ∧ k ≤ 3 ∧ x = nI k ∧ ¬ x < 1 ∧ ¬ 3 < x ∧ x ≤ 3) ∨ x < 1 ∨ (¬ x < 1 ∧ 3 < x ∧ ¬ x ≤ 3) := by
  by_cases h1 : x < 1
  · exact Or.inr (Or.inl h1)
  · have h0 : ¬ x < 0 := by
      rw [Int32.lt_iff_toInt_lt] at h1 ⊢
      have e0 : (0 : Int32).toInt = 0 := by decide
      have e1 : (1 : Int32).toInt = 1 := by decide
      omega
    obtain ⟨k, hk, rfl⟩ := nI_of h0
    have g1 : 1 ≤ k := by
      have : ¬ nI k < nI 1 := h1
      rw [nI_ltI hk (by omega)] at this; omega
    by_cases h3 : k ≤ 3
    · exact Or.inl ⟨k, g1, h3, rfl, h1, nI_nlt (a := 3) (b := k) h3 (by decide), nI_le (b := 3) h3 (by decide)⟩
    · exact Or.inr (Or.inr ⟨h1, nI_lt (a := 3) (by omega) hk, nI_ge (a := 3) (by omega) hk⟩)
end
section
/-! the tree: what each node holds, and that refreshTree makes it so -/
def tr_A (c : Nat) (g : Nat → Int32) (k m : Nat) (o q : Nat → Int32) : Prop :=
  ∀ node L a : Nat, m < node → L ≤ 6 → node * 2 ^ L = 64 + a → a < 64 →
    o (k * 128 + node) = nI (hs_o (hs_g c g k) a (a + 2 ^ L)) ∧ q (k * 128 + node) = nI (hs_c (hs_g c g k) a (a + 2 ^ L))
def tr_R (c : Nat) (g o q : Nat → Int32) : Prop := ∀ k, 1 ≤ k → k ≤ 3 → tr_A c g k 0 o q
def tr_F (k : Nat) (o q o' q' : Nat → Int32) : Prop := ∀ i, (i < k * 128 ∨ k * 128 + 128 ≤ i) → o' i = o i ∧ q' i = q i
theorem tr_ex : ∀ m, m < 128 → 1 ≤ m → ∃ L : Fin 7, 64 ≤ m * 2 ^ L.val ∧ m * 2 ^ L.val < 128 := by decide +kernel
theorem tr_unF : ∀ m : Fin 128, ∀ L M : Fin 7, (64 ≤ m.val * 2 ^ L.val ∧ m.val * 2 ^ L.val < 128 ∧ 64 ≤ m.val * 2 ^ M.val ∧ m.val * 2 ^ M.val < 128) → L.val = M.val := by decide +kernel
theorem tr_un (m : Nat) (hm : m < 128) (L : Nat) (hL : L < 7) (M : Nat) (hM : M < 7) (a : 64 ≤ m * 2 ^ L) (b : m * 2 ^ L < 128) (c : 64 ≤ m * 2 ^ M) (d : m * 2 ^ M < 128) : L = M := tr_unF ⟨m, hm⟩ ⟨L, hL⟩ ⟨M, hM⟩ ⟨a, b, c, d⟩
theorem tr_kid {m L a : Nat} (hL : L ≤ 5) (h : m * 2 ^ (L + 1) = 64 + a) (ha : a < 64) : (2 * m) * 2 ^ L = 64 + a ∧ (2 * m + 1) * 2 ^ L = 64 + (a + 2 ^ L) ∧ a + 2 ^ L < 64 := by
  have h6 : L = 0 ∨ L = 1 ∨ L = 2 ∨ L = 3 ∨ L = 4 ∨ L = 5 := by omega
  rcases h6 with rfl | rfl | rfl | rfl | rfl | rfl <;> simp only [Nat.reducePow, Nat.reduceAdd] at h ⊢ <;> omega
theorem tr_sm {post : Int32 → Prop} {x y : Int32} (A D : Nat) (hx : x = nI A) (hy : y = nI D) (hA : A < 2 ^ 31) (hD : D < 2 ^ 31) (h : post (nI (if D ≤ A then D else A))) : wpX_smaller post x y := by
  refine pk_le D A (fun z => ?_) (fun z => ?_) hy hx hD hA
  · rw [if_pos z] at h; rw [hy]; exact h
  · rw [if_neg (by omega)] at h; rw [hx]; exact h
theorem tr_node {post : SX → Prop} {c : Nat} {g o q : Nat → Int32} {p0 p1 p2 : Int32} (i0 i1 i2 A B C D : Nat) (e0 : p0 = nI i0) (e1 : p1 = nI i1) (e2 : p2 = nI i2)
    (h0 : i0 < 512) (h1 : i1 < 512) (h2 : i2 < 512) (eA : o i1 = nI A) (eB : o i2 = nI B) (eC : q i1 = nI C) (eD : q i2 = nI D)
    (bA : A ≤ 64) (bB : B ≤ 64) (bC : C ≤ 64) (bD : D ≤ 64)
    (H : post (nI c, g, upd o i0 (nI (B + (A - D))), upd q i0 (nI (C + (D - A))))) : wpX_refreshNode post (nI c, g, o, q) p0 p1 p2 := by
  subst e0 e1 e2
  have c0 : (nI i0).toNatClampNeg = i0 := nI_clamp (by omega)
  have c1 : (nI i1).toNatClampNeg = i1 := nI_clamp (by omega)
  have c2 : (nI i2).toNatClampNeg = i2 := nI_clamp (by omega)
  have v0 : vp_in (nI i0) 512 := vp_in_nI h0 (by omega)
  have v1 : vp_in (nI i1) 512 := vp_in_nI h1 (by omega)
  have v2 : vp_in (nI i2) 512 := vp_in_nI h2 (by omega)
  simp only [wpX_refreshNode, c0, c1, c2, eA, eB, eC, eD]
  refine ⟨v1, v2, tr_sm A D rfl rfl (by omega) (by omega) ⟨v1, v2, v0, nm_r ?_ ⟨v1, v2, v0, nm_r ?_ H⟩⟩⟩
  · rw [nI_add, pk_sub (by split <;> omega)]
    exact congrArg (fun z => upd o i0 (nI z)) (by split <;> omega)
  · rw [nI_add, pk_sub (by split <;> omega)]
    exact congrArg (fun z => upd q i0 (nI z)) (by split <;> omega)
theorem tr_96 (post : SX → Prop) (J2 : Int32 → Int32 → (Nat → Int32) → (Nat → Int32) → (Nat → Int32) → Prop) (c : Nat) (g : Nat → Int32) (k : Nat) (hk : k ≤ 3) :
    ∀ (m : Nat) (o q : Nat → Int32), m ≤ 63 → tr_A c g k m o q →
      (∀ o' q', tr_A c g k 0 o' q' → tr_F k o q o' q' → J2 (nI (k + 1)) (nI c) g o' q') →
      wX_refreshTree_96 post J2 (nI k) (nI (k * 128)) (m + 1) (nI m) (nI c) g o q := by
  intro m
  induction m with
  | zero =>
    intro o q _ hA H
    exact br_t (nI_lt (a := 0) (b := 1) (by decide) (by decide)) (nm_r (nI_1 k) (H o q hA (fun i _ => ⟨rfl, rfl⟩)))
  | succ m ih =>
    intro o q hm hA H
    obtain ⟨⟨L0, h7⟩, e1, e2⟩ := tr_ex (m + 1) (by omega) (by omega)
    dsimp only at e1 e2
    have hL : L0 ≠ 0 := by
      intro z
      rw [z] at e1
      omega
    obtain ⟨L, rfl⟩ : ∃ L, L0 = L + 1 := ⟨L0 - 1, by omega⟩
    obtain ⟨a, ea⟩ : ∃ a, (m + 1) * 2 ^ (L + 1) = 64 + a := ⟨(m + 1) * 2 ^ (L + 1) - 64, by omega⟩
    have ha : a < 64 := by omega
    obtain ⟨k1, k2, k3⟩ := tr_kid (by omega) ea ha
    obtain ⟨oA, cA⟩ := hA (2 * (m + 1)) L a (by omega) (by omega) k1 ha
    obtain ⟨oB, cB⟩ := hA (2 * (m + 1) + 1) L (a + 2 ^ L) (by omega) (by omega) k2 k3
    have b1 := hs_ole (hs_g c g k) a (a + 2 ^ L)
    have b2 := hs_cle (hs_g c g k) a (a + 2 ^ L)
    have b3 := hs_ole (hs_g c g k) (a + 2 ^ L) (a + 2 ^ L + 2 ^ L)
    have b4 := hs_cle (hs_g c g k) (a + 2 ^ L) (a + 2 ^ L + 2 ^ L)
    have x0 : nI (k * 128) + nI (m + 1) = nI (k * 128 + (m + 1)) := nI_add _ _
    have x1 : nI (k * 128) + 2 * nI (m + 1) = nI (k * 128 + 2 * (m + 1)) := by
      rw [show (2 : Int32) = nI 2 from rfl, pk_mul, nI_add]
    have x2 : nI (k * 128) + 2 * nI (m + 1) + 1 = nI (k * 128 + (2 * (m + 1) + 1)) := by
      rw [x1, nI_1]; rfl
    refine br_f (nI_nlt (a := m + 1) (b := 1) (by omega) (by omega)) (tr_node _ _ _ _ _ _ _ x0 x1 x2 (by omega) (by omega) (by omega) oA oB cA cB (by omega) (by omega) (by omega) (by omega) (nm_r (pk_m1 m) (ih _ _ (by omega) ?_ ?_)))
    · intro node L' a' h1 h2 h3 h4
      by_cases e : node = m + 1
      · subst e
        have eL : L' = L + 1 := tr_un (m + 1) (by omega) L' (by omega) (L + 1) (by omega) (by omega) (by omega) e1 e2
        subst eL
        have eA : a' = a := by omega
        subst eA
        rw [pk_us, pk_us, show a' + 2 ^ (L + 1) = a' + 2 ^ L + 2 ^ L from by rw [Nat.pow_succ]; omega]
        rw [hs_om (hs_g c g k) (a := a') (m := a' + 2 ^ L) (b := a' + 2 ^ L + 2 ^ L) (Nat.le_add_right _ _) (Nat.le_add_right _ _), hs_cm (hs_g c g k) (a := a') (m := a' + 2 ^ L) (b := a' + 2 ^ L + 2 ^ L) (Nat.le_add_right _ _) (Nat.le_add_right _ _)]
        exact ⟨rfl, rfl⟩
      · rw [pk_un (by omega), pk_un (by omega)]
        exact hA node L' a' (by omega) h2 h3 h4
    · intro o' q' ha' hf
      refine H o' q' ha' (fun i hi => ?_)
      obtain ⟨x, y⟩ := hf i hi
      rw [x, y, pk_un (by omega), pk_un (by omega)]
      exact ⟨rfl, rfl⟩
theorem tr_62 (post : SX → Prop) (J2 : Int32 → Int32 → (Nat → Int32) → (Nat → Int32) → (Nat → Int32) → Prop) (J15 : Int32 → (Nat → Int32) → (Nat → Int32) → (Nat → Int32) → Prop)
    (k i A C : Nat) (z0 z : Int32) (cc g o q : Nat → Int32) (f : Int32) (hk : k ≤ 3) (hi : i < 64) (hz : z = nI A) (hC : (z0 = nI (k + 3) ∧ C = 1) ∨ (¬ z0 = nI (k + 3) ∧ C = 0))
    (H : J15 (nI (i + 1)) g (upd o (k * 128 + (64 + i)) (nI A)) (upd q (k * 128 + (64 + i)) (nI C))) :
    wX_refreshTree_62 post J2 J15 (nI k) (nI (k * 128)) (nI i) z0 z (nI (k * 128) + 64 + nI i) f g o q := by
  have e : nI (k * 128) + 64 + nI i = nI (k * 128 + (64 + i)) := by
    rw [show (64 : Int32) = nI 64 from rfl, nI_add, nI_add, Nat.add_assoc]
  have ec : (nI (k * 128) + 64 + nI i).toNatClampNeg = k * 128 + (64 + i) := by rw [e]; exact nI_clamp (by omega)
  have v : vp_in (nI (k * 128) + 64 + nI i) 512 := by rw [e]; exact vp_in_nI (by omega) (by omega)
  refine ⟨v, nm_r (by rw [ec, hz]) ?_⟩
  have e3 : nI k + 3 = nI (k + 3) := nI_add k 3
  rcases hC with ⟨x, rfl⟩ | ⟨x, rfl⟩
  · exact br_t (by rw [e3]; exact x) ⟨v, nm_r (by rw [ec]; rfl) (nm_r (nI_1 i) H)⟩
  · exact br_f (by rw [e3]; exact x) ⟨v, nm_r (by rw [ec]; rfl) (nm_r (nI_1 i) H)⟩
theorem tr_39 (post : SX → Prop) (J2 : Int32 → Int32 → (Nat → Int32) → (Nat → Int32) → (Nat → Int32) → Prop) (J15 : Int32 → (Nat → Int32) → (Nat → Int32) → (Nat → Int32) → Prop)
    (c k i : Nat) (z0 : Int32) (g o q : Nat → Int32) (f : Int32) (hk : k ≤ 3) (hi : i < 64) (h1 : z0 = nI k ↔ hs_g c g k i = 1) (h2 : z0 = nI (k + 3) ↔ hs_g c g k i = -1)
    (H : J15 (nI (i + 1)) g (upd o (k * 128 + (64 + i)) (nI (hs_o (hs_g c g k) i (i + 1)))) (upd q (k * 128 + (64 + i)) (nI (hs_c (hs_g c g k) i (i + 1))))) :
    wX_refreshTree_39 post J2 J15 (nI k) (nI (k * 128)) (nI i) z0 f g o q := by
  rcases hs_1 (hs_g c g k) i with ⟨a, b, d⟩ | ⟨a, b, d⟩ | ⟨a, a', b, d⟩
  · have n : ¬ z0 = nI (k + 3) := fun z => by rw [h2.mp z] at a; exact absurd a (by decide)
    exact br_t (h1.mpr a) (tr_62 post J2 J15 k i (hs_o (hs_g c g k) i (i + 1)) (hs_c (hs_g c g k) i (i + 1)) z0 1 g g o q f hk hi (by rw [b]; rfl) (Or.inr ⟨n, d⟩) H)
  · have n : ¬ z0 = nI k := fun z => by rw [h1.mp z] at a; exact absurd a (by decide)
    exact br_f n (tr_62 post J2 J15 k i (hs_o (hs_g c g k) i (i + 1)) (hs_c (hs_g c g k) i (i + 1)) z0 0 g g o q f hk hi (by rw [b]; rfl) (Or.inl ⟨h2.mpr a, d⟩) H)
  · have n : ¬ z0 = nI k := fun z => a (h1.mp z)
    have n2 : ¬ z0 = nI (k + 3) := fun z => a' (h2.mp z)
    exact br_f n (tr_62 post J2 J15 k i (hs_o (hs_g c g k) i (i + 1)) (hs_c (hs_g c g k) i (i + 1)) z0 0 g g o q f hk hi (by rw [b]; rfl) (Or.inr ⟨n2, d⟩) H)
theorem tr_15 (post : SX → Prop) (J2 : Int32 → Int32 → (Nat → Int32) → (Nat → Int32) → (Nat → Int32) → Prop) (c : Nat) (hc : c ≤ 60) (g : Nat → Int32) (k : Nat) (hk0 : 1 ≤ k) (hk : k ≤ 3) :
    ∀ (d i : Nat) (o q : Nat → Int32), i + d = 64 →
      (∀ j, j < i → o (k * 128 + (64 + j)) = nI (hs_o (hs_g c g k) j (j + 1)) ∧ q (k * 128 + (64 + j)) = nI (hs_c (hs_g c g k) j (j + 1))) →
      (∀ o' q', tr_A c g k 0 o' q' → tr_F k o q o' q' → J2 (nI (k + 1)) (nI c) g o' q') →
      wX_refreshTree_15 post J2 (nI k) (nI (k * 128)) (nI c) (d + 1) (nI i) g o q := by
  intro d
  induction d with
  | zero =>
    intro i o q hi hl H
    refine br_t (nI_le (a := 64) (b := i) (by omega) (by omega)) ⟨64, tr_96 post J2 c g k hk 63 o q (by omega) ?_ H⟩
    intro node L a h1 h2 h3 h4
    have hL : L = 0 := by
      cases L with
      | zero => rfl
      | succ L =>
        exfalso
        rw [Nat.pow_succ] at h3
        have : node * 1 ≤ node * 2 ^ L := Nat.mul_le_mul_left node Nat.one_le_two_pow
        have e : node * (2 ^ L * 2) = 2 * (node * 2 ^ L) := by rw [← Nat.mul_assoc, Nat.mul_comm]
        omega
    subst hL
    have en : node = 64 + a := by simpa using h3
    rw [en]
    exact hl a (by omega)
  | succ d ih =>
    intro i o q hi hl H
    have J : ∀ z0 : Int32, (z0 = nI k ↔ hs_g c g k i = 1) → (z0 = nI (k + 3) ↔ hs_g c g k i = -1) → wX_refreshTree_39 post J2 (wX_refreshTree_15 post J2 (nI k) (nI (k * 128)) (nI c) (d + 1)) (nI k) (nI (k * 128)) (nI i) z0 (nI c) g o q := by
      intro z0 h1 h2
      refine tr_39 post J2 _ c k i z0 g o q (nI c) hk (by omega) h1 h2 (ih (i + 1) _ _ (by omega) ?_ ?_)
      · intro j hj
        by_cases e : j = i
        · subst e; rw [pk_us, pk_us]; exact ⟨rfl, rfl⟩
        · rw [pk_un (by omega), pk_un (by omega)]; exact hl j (by omega)
      · intro o' q' ha' hf
        refine H o' q' ha' (fun x hx => ?_)
        obtain ⟨y, z⟩ := hf x hx
        rw [y, z, pk_un (by omega), pk_un (by omega)]
        exact ⟨rfl, rfl⟩
    refine br_f (nI_ge (a := i) (b := 64) (by omega) (by decide)) (pk_le c i (fun h => ?_) (fun h => ?_))
    · refine J 0 ?_ ?_
      · rw [hs_g0 h]
        exact ⟨fun z => absurd z.symm (nI_ne0 hk0 (by omega)), fun z => absurd z (by decide)⟩
      · rw [hs_g0 h]
        exact ⟨fun z => absurd z.symm (nI_ne0 (by omega) (by omega)), fun z => absurd z (by decide)⟩
    · refine ⟨vp_in_nI (by omega) (by omega), ?_⟩
      rw [show (nI i).toNatClampNeg = i from nI_clamp (by omega)]
      exact J (g i) (hs_g1 h).symm (hs_g2 hk h).symm
theorem tr_2 (post : SX → Prop) (c : Nat) (hc : c ≤ 60) (g : Nat → Int32) :
    ∀ (d k : Nat) (o q : Nat → Int32), k + d = 4 → 1 ≤ k → (∀ k', 1 ≤ k' → k' < k → tr_A c g k' 0 o q) → (∀ o' q', tr_R c g o' q' → post (nI c, g, o', q')) →
      wX_refreshTree_2 post (d + 1) (nI k) (nI c) g o q := by
  intro d
  induction d with
  | zero =>
    intro k o q hk h1 hA H
    exact br_t (nI_lt (a := 3) (b := k) (by omega) (by omega)) (H o q (fun k' a b => hA k' a (by omega)))
  | succ d ih =>
    intro k o q hk h1 hA H
    refine br_f (nI_nlt (a := 3) (b := k) (by omega) (by decide)) (nm_r (pk_mul k 128) ⟨65, tr_15 post _ c hc g k h1 (by omega) 64 0 o q (by omega) (fun j hj => absurd hj (by omega)) ?_⟩)
    intro o' q' hA' hF
    refine ih (k + 1) o' q' (by omega) (by omega) ?_ H
    intro k' a b
    by_cases e : k' = k
    · subst e; exact hA'
    · intro node L a' x1 x2 x3 x4
      have hn : node < 128 := by
        have : node * 1 ≤ node * 2 ^ L := Nat.mul_le_mul_left node Nat.one_le_two_pow
        omega
      obtain ⟨y, z⟩ := hF (k' * 128 + node) (Or.inl (by omega))
      rw [y, z]
      exact hA k' a (by omega) node L a' x1 x2 x3 x4
theorem tr_new (post : SX → Prop) (c : Nat) (hc : c ≤ 60) (g o q : Nat → Int32) (H : ∀ o' q', tr_R c g o' q' → post (nI c, g, o', q')) : wpX_refreshTree post (nI c, g, o, q) :=
  ⟨4, tr_2 post c hc g 3 1 o q (by omega) (by omega) (fun k' a b => absurd b (by omega)) H⟩
end
section
/-! the edits: what each loop makes of the text, as a function -/
def ed_cd (g : Nat → Int32) : Prop := ∀ j, ∃ e : Nat, e ≤ 6 ∧ g j = nI e
theorem ed_cdU {g : Nat → Int32} (h : ed_cd g) (i : Nat) {x : Int32} {e : Nat} (he : e ≤ 6) (hx : x = nI e) : ed_cd (upd g i x) := by
  intro j
  by_cases z : j = i
  · subst z; rw [pk_us]; exact ⟨e, he, hx⟩
  · rw [pk_un z]; exact h j
def ed_sh (h : Nat → Int32) (a m : Nat) : Nat → Int32 := fun j => if a < j ∧ j ≤ m then h (j - 1) else h j
theorem ed_sh0 (h : Nat → Int32) (a : Nat) : ed_sh h a a = h := funext fun j => if_neg (by omega)
theorem ed_shS (h : Nat → Int32) {a m : Nat} (ham : a ≤ m) : ed_sh (upd h (m + 1) (h m)) a m = ed_sh h a (m + 1) := by
  funext j
  unfold ed_sh
  by_cases e : j = m + 1
  · subst e; rw [if_neg (by omega), if_pos (by omega), pk_us]; rfl
  · by_cases c : a < j ∧ j ≤ m
    · rw [if_pos c, if_pos (by omega), pk_un (by omega)]
    · rw [if_neg c, if_neg (by omega), pk_un e]
theorem ed_shC {h : Nat → Int32} (H : ed_cd h) (a m : Nat) : ed_cd (ed_sh h a m) := by
  intro j
  unfold ed_sh
  split
  · exact H _
  · exact H _
def ed_in (g : Nat → Int32) (c a : Nat) (x : Int32) : Nat → Int32 := upd (ed_sh g a c) a x
theorem ed_yi (post : Int32 → SY → Prop) (x2 : Int32) (c a : Nat) (hc : c < 60) (p : Nat → Int32) : ∀ (d : Nat) (h : Nat → Int32), a + d ≤ c →
    post (nI (c + 1)) (nI (c + 1), upd (ed_sh h a (a + d)) a x2, p) → wY_insert_41 post (nI a) x2 (nI c) (d + 1) (nI (a + d)) h p := by
  intro d
  induction d with
  | zero =>
    intro h hd H
    rw [show ed_sh h a (a + 0) = h from ed_sh0 h a] at H
    exact br_t (nI_le (by omega) (by omega)) ⟨vp_in_nI (by omega) (by omega), nm_r (by rw [nI_clamp (by omega)]) (nm_r (nI_1 c) H)⟩
  | succ d ih =>
    intro h hd H
    have e1 : nI (a + (d + 1)) - 1 = nI (a + d) := nI_pred (a + d)
    refine br_f (nI_ge (by omega) (by omega)) ⟨?_, vp_in_nI (by omega) (by omega), nm_r (e' := upd h (a + d + 1) (h (a + d))) ?_ (nm_r (pk_m1 (a + d)) (ih _ (by omega) ?_))⟩
    · rw [e1]; exact vp_in_nI (by omega) (by omega)
    · rw [e1, nI_clamp (by omega), nI_clamp (by omega)]; rfl
    · rw [ed_shS h (by omega)]; exact H
theorem ed_xi (post : Int32 → SX → Prop) (x2 : Int32) (c a : Nat) (hc : c < 60) (o q : Nat → Int32) : ∀ (d : Nat) (h : Nat → Int32), a + d ≤ c →
    (∀ o' q', tr_R (c + 1) (upd (ed_sh h a (a + d)) a x2) o' q' → post (nI (c + 1)) (nI (c + 1), upd (ed_sh h a (a + d)) a x2, o', q')) → wX_insert_41 post (nI a) x2 (nI c) (d + 1) (nI (a + d)) h o q := by
  intro d
  induction d with
  | zero =>
    intro h hd H
    rw [show ed_sh h a (a + 0) = h from ed_sh0 h a] at H
    exact br_t (nI_le (by omega) (by omega)) ⟨vp_in_nI (by omega) (by omega), nm_r (by rw [nI_clamp (by omega)]) (nm_r (nI_1 c) (tr_new _ (c + 1) (by omega) _ o q H))⟩
  | succ d ih =>
    intro h hd H
    have e1 : nI (a + (d + 1)) - 1 = nI (a + d) := nI_pred (a + d)
    refine br_f (nI_ge (by omega) (by omega)) ⟨?_, vp_in_nI (by omega) (by omega), nm_r (e' := upd h (a + d + 1) (h (a + d))) ?_ (nm_r (pk_m1 (a + d)) (ih _ (by omega) ?_))⟩
    · rw [e1]; exact vp_in_nI (by omega) (by omega)
    · rw [e1, nI_clamp (by omega), nI_clamp (by omega)]; rfl
    · rw [ed_shS h (by omega)]; exact H
theorem ed_yin (post : Int32 → SY → Prop) {c a e : Nat} (g p : Nat → Int32) {x0 x1 : Int32} (hc : c < 60) (ha : a ≤ c) (he : e ≤ 6) (e0 : x0 = nI a) (e1 : x1 = nI e) (H : post (nI (c + 1)) (nI (c + 1), ed_in g c a (nI e), p)) :
    wpY_insert post (nI c, g, p) x0 x1 := by
  subst e0 e1
  have z : ¬ nI c = 60 := by
    intro z
    have : nI c = nI 60 := z
    rw [nI_eq (by omega) (by omega)] at this
    omega
  refine br_f z (br_f (nI_pos (by omega)) (br_f (nI_nlt ha (by omega)) (br_f (nI_pos (by omega)) (br_t (nI_le (b := 6) he (by decide)) ⟨c - a + 1, ?_⟩))))
  have h := ed_yi post (nI e) c a hc p (c - a) g (by omega)
  rw [show a + (c - a) = c from by omega] at h
  exact h H
theorem ed_xin (post : Int32 → SX → Prop) {c a e : Nat} (g o q : Nat → Int32) (hc : c < 60) (ha : a ≤ c) (H : ∀ o' q', tr_R (c + 1) (ed_in g c a (nI e)) o' q' → post (nI (c + 1)) (nI (c + 1), ed_in g c a (nI e), o', q')) :
    ∃ n, wX_insert_41 post (nI a) (nI e) (nI c) n (nI c) g o q := by
  have h := ed_xi post (nI e) c a hc o q (c - a) g (by omega)
  rw [show a + (c - a) = c from by omega] at h
  exact ⟨c - a + 1, h H⟩
def ed_er (h : Nat → Int32) (b m l : Nat) : Nat → Int32 := fun j => if b ≤ j ∧ j < m then h (j + l) else h j
theorem ed_er0 (h : Nat → Int32) (b l : Nat) : ed_er h b b l = h := funext fun j => if_neg (by omega)
theorem ed_erS (h : Nat → Int32) {b m l : Nat} (hb : b < m) : ed_er (upd h b (h (b + l))) (b + 1) m l = ed_er h b m l := by
  funext j
  unfold ed_er
  by_cases e : j = b
  · subst e; rw [if_neg (by omega), if_pos (by omega), pk_us]
  · by_cases c : b ≤ j ∧ j < m
    · rw [if_pos (by omega), if_pos c, pk_un (by omega)]
    · rw [if_neg (by omega), if_neg c, pk_un e]
theorem ed_erC {h : Nat → Int32} (H : ed_cd h) (b m l : Nat) : ed_cd (ed_er h b m l) := by
  intro j
  unfold ed_er
  split
  · exact H _
  · exact H _
theorem ed_ye (post : Int32 → SY → Prop) (c l m : Nat) (hc : c ≤ 60) (hm : m + l = c) (p : Nat → Int32) : ∀ (d b : Nat) (h : Nat → Int32), b + d = m →
    post (nI m) (nI m, ed_er h b m l, p) → wY_erase_15 post (nI l) (nI c) (d + 1) (nI (b + l)) h p := by
  have em : nI c - nI l = nI m := by rw [pk_sub (by omega)]; exact congrArg nI (by omega)
  intro d
  induction d with
  | zero =>
    intro b h hd H
    rw [show m = b from by omega, ed_er0, show b = m from by omega] at H
    exact br_t (nI_le (by omega) (by omega)) (nm_r em H)
  | succ d ih =>
    intro b h hd H
    have e1 : nI (b + l) - nI l = nI b := by rw [pk_sub (by omega)]; exact congrArg nI (by omega)
    refine br_f (nI_ge (by omega) (by omega)) ⟨vp_in_nI (by omega) (by omega), ?_, nm_r (e' := upd h b (h (b + l))) ?_ (nm_r (e' := nI (b + 1 + l)) ?_ (ih (b + 1) _ (by omega) ?_))⟩
    · rw [e1]; exact vp_in_nI (by omega) (by omega)
    · rw [e1, nI_clamp (by omega), nI_clamp (by omega)]
    · rw [nI_1]; exact congrArg nI (by omega)
    · rw [ed_erS h (by omega)]; exact H
theorem ed_xe (post : Int32 → SX → Prop) (c l m : Nat) (hc : c ≤ 60) (hm : m + l = c) (o q : Nat → Int32) : ∀ (d b : Nat) (h : Nat → Int32), b + d = m →
    (∀ o' q', tr_R m (ed_er h b m l) o' q' → post (nI m) (nI m, ed_er h b m l, o', q')) → wX_erase_15 post (nI l) (nI c) (d + 1) (nI (b + l)) h o q := by
  have em : nI c - nI l = nI m := by rw [pk_sub (by omega)]; exact congrArg nI (by omega)
  intro d
  induction d with
  | zero =>
    intro b h hd H
    rw [show m = b from by omega, ed_er0, show b = m from by omega] at H
    exact br_t (nI_le (by omega) (by omega)) (nm_r em (tr_new _ m (by omega) _ o q H))
  | succ d ih =>
    intro b h hd H
    have e1 : nI (b + l) - nI l = nI b := by rw [pk_sub (by omega)]; exact congrArg nI (by omega)
    refine br_f (nI_ge (by omega) (by omega)) ⟨vp_in_nI (by omega) (by omega), ?_, nm_r (e' := upd h b (h (b + l))) ?_ (nm_r (e' := nI (b + 1 + l)) ?_ (ih (b + 1) _ (by omega) ?_))⟩
    · rw [e1]; exact vp_in_nI (by omega) (by omega)
    · rw [e1, nI_clamp (by omega), nI_clamp (by omega)]
    · rw [nI_1]; exact congrArg nI (by omega)
    · rw [ed_erS h (by omega)]; exact H
theorem ed_yer (post : Int32 → SY → Prop) {c a l : Nat} (g p : Nat → Int32) (hc : c ≤ 60) (h : a + l ≤ c) (H : post (nI (c - l)) (nI (c - l), ed_er g a (c - l) l, p)) :
    ∀ y, y = nI a + nI l → ∃ n, wY_erase_15 post (nI l) (nI c) n y g p :=
  nm_r (nI_add a l) ⟨_, ed_ye post c l (c - l) hc (by omega) p (c - l - a) a g (by omega) H⟩
theorem ed_xer (post : Int32 → SX → Prop) {c a l : Nat} (g o q : Nat → Int32) (hc : c ≤ 60) (h : a + l ≤ c) (H : ∀ o' q', tr_R (c - l) (ed_er g a (c - l) l) o' q' → post (nI (c - l)) (nI (c - l), ed_er g a (c - l) l, o', q')) :
    ∀ y, y = nI a + nI l → ∃ n, wX_erase_15 post (nI l) (nI c) n y g o q :=
  nm_r (nI_add a l) ⟨_, ed_xe post c l (c - l) hc (by omega) o q (c - l - a) a g (by omega) H⟩
def ed_rv (h : Nat → Int32) (f e : Nat) : Nat → Int32 := fun j => if f ≤ j ∧ j < e then h (f + e - 1 - j) else h j
theorem ed_rv0 (h : Nat → Int32) {f e : Nat} (hfe : e ≤ f + 1) : ed_rv h f e = h := by
  funext j
  unfold ed_rv
  split
  · exact congrArg h (by omega)
  · rfl
theorem ed_rvS (h : Nat → Int32) {f t : Nat} (hft : f < t) : ed_rv (upd (upd h f (h t)) t (h f)) (f + 1) t = ed_rv h f (t + 1) := by
  funext j
  unfold ed_rv
  by_cases e : j = f
  · subst e; rw [if_neg (by omega), if_pos (by omega), pk_un (by omega), pk_us]; exact congrArg h (by omega)
  · by_cases e2 : j = t
    · subst e2; rw [if_neg (by omega), if_pos (by omega), pk_us]; exact congrArg h (by omega)
    · by_cases c : f ≤ j ∧ j < t + 1
      · rw [if_pos (by omega), if_pos c, pk_un (by omega), pk_un (by omega)]; exact congrArg h (by omega)
      · rw [if_neg (by omega), if_neg c, pk_un (by omega), pk_un (by omega)]
theorem ed_rvC {h : Nat → Int32} (H : ed_cd h) (f e : Nat) : ed_cd (ed_rv h f e) := by
  intro j
  unfold ed_rv
  split
  · exact H _
  · exact H _
theorem ed_m1 {e l : Nat} (hl : l ≤ 60) (h : e ≤ l + 1) : nI e - 1 ≤ nI l := by
  cases e with
  | zero =>
    rw [Int32.le_iff_toInt_le, nI_toInt (by omega), show (nI 0 - 1).toInt = -1 from by decide]
    omega
  | succ e => rw [nI_pred]; exact nI_le (by omega) (by omega)
theorem ed_xr (post : SX → Prop) (f : Int32) (o q : Nat → Int32) : ∀ (d l e : Nat) (h : Nat → Int32), e ≤ 60 → l ≤ 60 → e ≤ l + 2 * d + 1 →
    post (f, ed_rv h l e, o, q) → wX_reverse_7 post f (d + 1) (nI e - 1) (nI l) h o q := by
  intro d
  induction d with
  | zero =>
    intro l e h he hl hd H
    rw [ed_rv0 h (by omega)] at H
    exact br_t (ed_m1 hl (by omega)) H
  | succ d ih =>
    intro l e h he hl hd H
    by_cases c : e ≤ l + 1
    · rw [ed_rv0 h c] at H
      exact br_t (ed_m1 hl c) H
    · obtain ⟨t, rfl⟩ : ∃ t, e = t + 1 := ⟨e - 1, by omega⟩
      rw [nI_pred]
      have vl : vp_in (nI l) 60 := vp_in_nI (by omega) (by omega)
      have vt : vp_in (nI t) 60 := vp_in_nI (by omega) (by omega)
      have cl : (nI l).toNatClampNeg = l := nI_clamp (by omega)
      have ct : (nI t).toNatClampNeg = t := nI_clamp (by omega)
      refine br_f (nI_ge (by omega) (by omega)) ⟨vl, nm_r (e' := h l) (by rw [cl]) ⟨vt, vl, nm_r (e' := upd h l (h t)) (by rw [cl, ct]) ⟨vt, nm_r (e' := upd (upd h l (h t)) t (h l)) (by rw [ct]) (nm_r (e' := nI t - 1) (Int32.sub_eq_add_neg ..).symm (nm_r (nI_1 l) (ih (l + 1) t _ (by omega) (by omega) (by omega) ?_)))⟩⟩⟩
      rw [ed_rvS h (by omega)]
      exact H
theorem ed_xrev (post : SX → Prop) (f : Int32) (g o q : Nat → Int32) {l e : Nat} {x1 : Int32} (he : e ≤ 60) (hl : l ≤ 60) (e1 : x1 = nI e) (H : post (f, ed_rv g l e, o, q)) : wpX_reverse post (f, g, o, q) (nI l) x1 := by
  subst e1
  exact nm_e ⟨61, ed_xr post f o q 60 l e g he hl (by omega) H⟩
def ed_sw (g : Nat → Int32) (a b e : Nat) : Nat → Int32 := fun j => if a ≤ j ∧ j < a + (e - b) then g (j + (b - a)) else if a + (e - b) ≤ j ∧ j < e then g (j - (e - b)) else g j
theorem ed_rv3 (g : Nat → Int32) {a b e : Nat} (h1 : a ≤ b) (h2 : b ≤ e) : ed_rv (ed_rv (ed_rv g a b) b e) a e = ed_sw g a b e := by
  funext j
  unfold ed_rv ed_sw
  repeat' split
  all_goals first | rfl | (exfalso; omega) | exact congrArg g (by omega)
theorem ed_swC {h : Nat → Int32} (H : ed_cd h) (a b e : Nat) : ed_cd (ed_sw h a b e) := by
  intro j
  unfold ed_sw
  split
  · exact H _
  · split
    · exact H _
    · exact H _
theorem ed_xsw (post : SX → Prop) (f : Int32) (g o q : Nat → Int32) {a b e : Nat} {x1 x2 : Int32} (h1 : a ≤ b) (h2 : b ≤ e) (h3 : e ≤ 60) (e1 : x1 = nI b) (e2 : x2 = nI e) (H : post (f, ed_sw g a b e, o, q)) :
    wpX_swapNeighbours post (f, g, o, q) (nI a) x1 x2 := by
  subst e1 e2
  rw [← ed_rv3 g h1 h2] at H
  unfold wpX_swapNeighbours
  dsimp only
  refine ed_xrev _ f g o q (by omega) (by omega) rfl ?_
  refine ed_xrev _ f _ o q (by omega) (by omega) rfl ?_
  refine ed_xrev _ f _ o q (by omega) (by omega) rfl ?_
  exact H
end
section
/-! mirror and move -/
def ed_mi (x : Int32) : Int32 := if x = 0 then 0 else if 3 < x then x - 3 else x + 3
theorem ed_miC : ∀ e : Fin 7, ∃ e' : Fin 7, ed_mi (nI e.val) = nI e'.val := by decide +kernel
theorem ed_mi6 {x : Int32} (h : ∃ e : Nat, e ≤ 6 ∧ x = nI e) : ∃ e : Nat, e ≤ 6 ∧ ed_mi x = nI e := by
  obtain ⟨e, he, rfl⟩ := h
  obtain ⟨⟨e', h'⟩, y⟩ := ed_miC ⟨e, by omega⟩
  exact ⟨e', by omega, y⟩
theorem ed_xmi (post : Int32 → Prop) (x : Int32) (H : post (ed_mi x)) : wpX_mirrored post x := by
  unfold ed_mi at H
  by_cases h : x = 0
  · rw [if_pos h] at H; exact br_t h H
  · rw [if_neg h] at H
    by_cases h3 : 3 < x
    · rw [if_pos h3] at H; exact br_f h (br_t h3 H)
    · rw [if_neg h3] at H; exact br_f h (br_f h3 H)
def ed_mr (h : Nat → Int32) (i e : Nat) : Nat → Int32 := fun j => if i ≤ j ∧ j < e then ed_mi (h j) else h j
theorem ed_mr0 (h : Nat → Int32) (i : Nat) : ed_mr h i i = h := funext fun j => if_neg (by omega)
theorem ed_mrS (h : Nat → Int32) {i e : Nat} (hi : i < e) : ed_mr (upd h i (ed_mi (h i))) (i + 1) e = ed_mr h i e := by
  funext j
  unfold ed_mr
  by_cases z : j = i
  · subst z; rw [if_neg (by omega), if_pos (by omega), pk_us]
  · by_cases c : i ≤ j ∧ j < e
    · rw [if_pos (by omega), if_pos c, pk_un z]
    · rw [if_neg (by omega), if_neg c, pk_un z]
theorem ed_mrC {h : Nat → Int32} (H : ed_cd h) (i e : Nat) : ed_cd (ed_mr h i e) := by
  intro j
  unfold ed_mr
  split
  · exact ed_mi6 (H j)
  · exact H j
theorem ed_xm (post : Int32 → SX → Prop) (c a l : Nat) (hc : c ≤ 60) (hal : a + l ≤ c) (o q : Nat → Int32) : ∀ (d i : Nat) (h : Nat → Int32), i + d = a + l →
    (∀ o' q', tr_R c (ed_mr h i (a + l)) o' q' → post (nI c) (nI c, ed_mr h i (a + l), o', q')) → wX_mirror_21 post (nI a) (nI l) (nI c) (d + 1) (nI i) h o q := by
  intro d
  induction d with
  | zero =>
    intro i h hd H
    rw [show a + l = i from by omega, ed_mr0] at H
    refine br_t ?_ (tr_new _ c hc _ o q H)
    rw [nI_add]
    exact nI_le (by omega) (by omega)
  | succ d ih =>
    intro i h hd H
    have v : vp_in (nI i) 60 := vp_in_nI (by omega) (by omega)
    have ci : (nI i).toNatClampNeg = i := nI_clamp (by omega)
    refine br_f ?_ ⟨v, ed_xmi _ _ ⟨v, nm_r (e' := upd h i (ed_mi (h i))) (by rw [ci]) (nm_r (nI_1 i) (ih (i + 1) _ (by omega) ?_))⟩⟩
    · rw [nI_add]; exact nI_ge (by omega) (by omega)
    · rw [ed_mrS h (by omega)]; exact H
/-- the copy of the stretch into part -/
def ed_cp (h p : Nat → Int32) (a i e : Nat) : Nat → Int32 := fun j => if i ≤ j ∧ j < e then h (a + j) else p j
theorem ed_cp0 (h p : Nat → Int32) (a i : Nat) : ed_cp h p a i i = p := funext fun j => if_neg (by omega)
theorem ed_cpS (h p : Nat → Int32) {a i e : Nat} (hi : i < e) : ed_cp h (upd p i (h (a + i))) a (i + 1) e = ed_cp h p a i e := by
  funext j
  unfold ed_cp
  by_cases z : j = i
  · subst z; rw [if_neg (by omega), if_pos (by omega), pk_us]
  · by_cases c : i ≤ j ∧ j < e
    · rw [if_pos (by omega), if_pos c]
    · rw [if_neg (by omega), if_neg c, pk_un z]
def ed_pm (h p : Nat → Int32) (a i l : Nat) : Nat → Int32 := fun j => if a + i ≤ j ∧ j < a + l then ed_mi (p (l - 1 - (j - a))) else h j
theorem ed_pm0 (h p : Nat → Int32) (a l : Nat) : ed_pm h p a l l = h := funext fun j => if_neg (by omega)
theorem ed_pmS (h p : Nat → Int32) {a i l : Nat} (hi : i < l) : ed_pm (upd h (a + i) (ed_mi (p (l - 1 - i)))) p a (i + 1) l = ed_pm h p a i l := by
  funext j
  unfold ed_pm
  by_cases z : j = a + i
  · subst z; rw [if_neg (by omega), if_pos (by omega), pk_us]; exact congrArg (fun x => ed_mi (p x)) (by omega)
  · by_cases c : a + i ≤ j ∧ j < a + l
    · rw [if_pos (by omega), if_pos c]
    · rw [if_neg (by omega), if_neg c, pk_un z]
theorem ed_y40 (post : Int32 → SY → Prop) (c a l : Nat) (hc : c ≤ 60) (hal : a + l ≤ c) (p : Nat → Int32) : ∀ (d i : Nat) (h : Nat → Int32), i + d = l →
    post (nI c) (nI c, ed_pm h p a i l, p) → wY_mirror_40 post (nI a) (nI l) (nI c) (d + 1) (nI i) h p := by
  intro d
  induction d with
  | zero =>
    intro i h hd H
    rw [show i = l from by omega, ed_pm0] at H
    exact br_t (nI_le (by omega) (by omega)) H
  | succ d ih =>
    intro i h hd H
    have e1 : nI l - 1 - nI i = nI (l - 1 - i) := by
      rw [show (1 : Int32) = nI 1 from rfl, pk_sub (by omega), pk_sub (by omega)]
    have v1 : vp_in (nI l - 1 - nI i) 60 := by rw [e1]; exact vp_in_nI (by omega) (by omega)
    have c1 : (nI l - 1 - nI i).toNatClampNeg = l - 1 - i := by rw [e1]; exact nI_clamp (by omega)
    have e2 : nI a + nI i = nI (a + i) := nI_add a i
    have v2 : vp_in (nI a + nI i) 60 := by rw [e2]; exact vp_in_nI (by omega) (by omega)
    have c2 : (nI a + nI i).toNatClampNeg = a + i := by rw [e2]; exact nI_clamp (by omega)
    rw [← ed_pmS h p (show i < l from by omega)] at H
    refine br_f (nI_ge (by omega) (by omega)) ⟨v1, nm_r (e' := p (l - 1 - i)) (by rw [c1]) ?_⟩
    have K : ∀ x, x = ed_mi (p (l - 1 - i)) → ∀ h', h' = upd h (nI a + nI i).toNatClampNeg x → ∀ y, y = nI i + 1 → wY_mirror_40 post (nI a) (nI l) (nI c) (d + 1) y h' p :=
      fun x ex => nm_r (by rw [c2, ex]) (nm_r (nI_1 i) (ih (i + 1) _ (by omega) H))
    unfold ed_mi at K
    refine br_c (fun z => ⟨v2, K _ (by rw [if_pos z])⟩) (fun z => br_c (fun w => ⟨v2, K _ (by rw [if_neg z, if_pos w])⟩) (fun w => ⟨v2, K _ (by rw [if_neg z, if_neg w])⟩))
theorem ed_y13 (post : Int32 → SY → Prop) (c a l : Nat) (hc : c ≤ 60) (hal : a + l ≤ c) (h : Nat → Int32) : ∀ (d i : Nat) (p : Nat → Int32), i + d = l →
    post (nI c) (nI c, ed_pm h (ed_cp h p a i l) a 0 l, ed_cp h p a i l) → wY_mirror_13 post (nI a) (nI l) (nI c) (d + 1) (nI i) h p := by
  intro d
  induction d with
  | zero =>
    intro i p hd H
    rw [show i = l from by omega, ed_cp0] at H
    exact br_t (nI_le (by omega) (by omega)) ⟨l + 1, ed_y40 post c a l hc hal p l 0 h (by omega) H⟩
  | succ d ih =>
    intro i p hd H
    have e2 : nI a + nI i = nI (a + i) := nI_add a i
    have v2 : vp_in (nI a + nI i) 60 := by rw [e2]; exact vp_in_nI (by omega) (by omega)
    have c2 : (nI a + nI i).toNatClampNeg = a + i := by rw [e2]; exact nI_clamp (by omega)
    have ci : (nI i).toNatClampNeg = i := nI_clamp (by omega)
    refine br_f (nI_ge (by omega) (by omega)) ⟨v2, vp_in_nI (by omega) (by omega), nm_r (e' := upd p i (h (a + i))) (by rw [c2, ci]) (nm_r (nI_1 i) (ih (i + 1) _ (by omega) ?_))⟩
    rw [ed_cpS h p (by omega)]
    exact H
theorem ed_mirEq (g p : Nat → Int32) (a l : Nat) : ed_pm g (ed_cp g p a 0 l) a 0 l = ed_mr (ed_rv g a (a + l)) a (a + l) := by
  funext j
  unfold ed_pm ed_mr
  by_cases c : a ≤ j ∧ j < a + l
  · rw [if_pos (by omega), if_pos c]
    unfold ed_cp ed_rv
    rw [if_pos (by omega), if_pos c]
    exact congrArg (fun x => ed_mi (g x)) (by omega)
  · rw [if_neg (by omega), if_neg c]
    unfold ed_rv
    rw [if_neg c]
/-- the text after i of the pieces were put in at t -/
def ed_mv (E p : Nat → Int32) (t i m : Nat) : Nat → Int32 := fun j => if j < t then E j else if j < t + i then p (j - t) else if j < m + i then E (j - i) else E j
theorem ed_mv0 (E p : Nat → Int32) (t m : Nat) : ed_mv E p t 0 m = E := by
  funext j
  unfold ed_mv
  repeat' split
  all_goals first | rfl | (exfalso; omega)
theorem ed_mvS (E p : Nat → Int32) {t i m : Nat} (ht : t ≤ m) : ed_in (ed_mv E p t i m) (m + i) (t + i) (p i) = ed_mv E p t (i + 1) m := by
  funext j
  unfold ed_in
  by_cases z : j = t + i
  · subst z
    rw [pk_us]
    unfold ed_mv
    rw [if_neg (by omega), if_pos (by omega)]
    exact congrArg p (by omega)
  · rw [pk_un z]
    unfold ed_sh ed_mv
    repeat' split
    all_goals first | rfl | (exfalso; omega) | exact congrArg E (by omega) | exact congrArg p (by omega)
theorem ed_y66 (post : Int32 → SY → Prop) (m t l : Nat) (hm : m + l ≤ 60) (ht : t ≤ m) (E p : Nat → Int32) (hp : ∀ i, i < l → ∃ e : Nat, e ≤ 6 ∧ p i = nI e) : ∀ (d i : Nat), i + d = l →
    post (nI (m + l)) (nI (m + l), ed_mv E p t l m, p) → wY_move_66 post (nI l) (nI t) (d + 1) (nI i) (nI (m + i)) (ed_mv E p t i m) p := by
  intro d
  induction d with
  | zero =>
    intro i hd H
    rw [← show i = l from by omega] at H
    exact br_t (nI_le (by omega) (by omega)) H
  | succ d ih =>
    intro i hd H
    obtain ⟨e, he, hx⟩ := hp i (by omega)
    have ci : (nI i).toNatClampNeg = i := nI_clamp (by omega)
    refine br_f (nI_ge (by omega) (by omega)) ⟨vp_in_nI (by omega) (by omega), ed_yin _ (c := m + i) (a := t + i) (e := e) _ p (by omega) (by omega) he (nI_add t i) (by rw [ci]; exact hx) (nm_r (nI_1 i) ?_)⟩
    rw [← hx, ed_mvS E p ht]
    exact ih (i + 1) (by omega) H
theorem ed_y28 (post : Int32 → SY → Prop) (c a l t : Nat) (hc : c ≤ 60) (hal : a + l ≤ c) (ht : t + l ≤ c) (h : Nat → Int32) (hh : ed_cd h) : ∀ (d i : Nat) (p : Nat → Int32), i + d = l → (∀ j, j < i → p j = h (a + j)) →
    post (nI c) (nI c, ed_mv (ed_er h a (c - l) l) (ed_cp h p a i l) t l (c - l), ed_cp h p a i l) → wY_move_28 post (nI a) (nI l) (nI t) (nI c) (d + 1) (nI i) h p := by
  intro d
  induction d with
  | zero =>
    intro i p hd hp H
    rw [show i = l from by omega, ed_cp0] at H
    refine br_t (nI_le (by omega) (by omega)) ?_
    unfold wpY_erase
    dsimp only
    refine gd_ys c hc h p a l hal _ (br_f (by decide) (ed_yer _ h p hc hal ⟨l + 1, ?_⟩))
    have y := ed_y66 post (c - l) t l (by omega) (by omega) (ed_er h a (c - l) l) p (fun i hi => by rw [hp i (by omega)]; exact hh _) l 0 (by omega)
    rw [ed_mv0, show c - l + l = c from by omega] at y
    exact y H
  | succ d ih =>
    intro i p hd hp H
    have e2 : nI a + nI i = nI (a + i) := nI_add a i
    have v2 : vp_in (nI a + nI i) 60 := by rw [e2]; exact vp_in_nI (by omega) (by omega)
    have c2 : (nI a + nI i).toNatClampNeg = a + i := by rw [e2]; exact nI_clamp (by omega)
    have ci : (nI i).toNatClampNeg = i := nI_clamp (by omega)
    refine br_f (nI_ge (by omega) (by omega)) ⟨v2, vp_in_nI (by omega) (by omega), nm_r (e' := upd p i (h (a + i))) (by rw [c2, ci]) (nm_r (nI_1 i) (ih (i + 1) _ (by omega) ?_ ?_))⟩
    · intro j hj
      by_cases z : j = i
      · subst z; rw [pk_us]
      · rw [pk_un z]; exact hp j (by omega)
    · rw [ed_cpS h p (by omega)]
      exact H
theorem ed_moveR (g p : Nat → Int32) {c a l t : Nat} (hal : a + l ≤ c) (ht : t + l ≤ c) (h : a < t) : ed_mv (ed_er g a (c - l) l) (ed_cp g p a 0 l) t l (c - l) = ed_sw g a (a + l) (t + l) := by
  funext j
  unfold ed_mv ed_er ed_cp ed_sw
  repeat' split
  all_goals first | rfl | (exfalso; omega) | exact congrArg g (by omega)
theorem ed_moveL (g p : Nat → Int32) {c a l t : Nat} (hal : a + l ≤ c) (ht : t + l ≤ c) (h : t ≤ a) : ed_mv (ed_er g a (c - l) l) (ed_cp g p a 0 l) t l (c - l) = ed_sw g t a (a + l) := by
  funext j
  unfold ed_mv ed_er ed_cp ed_sw
  repeat' split
  all_goals first | rfl | (exfalso; omega) | exact congrArg g (by omega)
end
section
/-! the component's walks over its tree -/
theorem xq_p6 {m : Nat} (h : m ≤ 6) : 1 ≤ 2 ^ m ∧ 2 ^ m ≤ 64 := ⟨Nat.one_le_two_pow, Nat.pow_le_pow_right (n := 2) (by decide) h⟩
theorem xq_sh {m : Nat} (h : m ≤ 6) : (1 : Int32) <<< (nI m &&& 31) = nI (2 ^ m) := by
  have p := xq_p6 h
  have e := pk_shlN (n := 1) (nI m &&& 31) m (s_l m (by omega)) (by omega)
  rw [Nat.one_mul] at e
  exact e
theorem xq_an {a m : Nat} (ha : a ≤ 64) (h : m ≤ 6) : nI a &&& (nI (2 ^ m) - 1) = nI (a % 2 ^ m) := by
  have p := xq_p6 h
  rw [show (1 : Int32) = nI 1 from rfl, pk_sub p.1]
  exact pk_andN (by omega) m (pk_tn (by omega))
theorem xq_sr {a m : Nat} (ha : a < 128) (h : m ≤ 6) : nI a >>> (nI m &&& 31) = nI (a / 2 ^ m) := pk_shrN (by omega) _ m (s_l m (by omega))
theorem xq_ad {P O C : Nat} (h : C ≤ P + O) : nI P + (nI O - nI C) = nI (P + O - C) := by
  rw [← pk_sub h, ← nI_add, Int32.sub_eq_add_neg, Int32.sub_eq_add_neg, Int32.add_assoc]
theorem xq_sl {s w f : Nat} (hs : s ≤ 64) (hw : w ≤ 64) (hf : f ≤ 64) : nI s - nI w < nI f ↔ s < f + w := by
  rw [Int32.lt_iff_toInt_lt, pk_sub_toInt (by omega) (by omega), nI_toInt (by omega)]
  omega
theorem xq_lf (post : Int32 → Prop) (a e : Nat) (ha : a ≤ 64) (he : e ≤ 64) (H : ∀ L, L ≤ 6 → a % 2 ^ L = 0 → a + 2 ^ L ≤ e → post (nI L)) :
    ∀ d m L : Nat, m + d = 7 → L ≤ 6 → a % 2 ^ L = 0 → a + 2 ^ L ≤ e → wX_levelFrom_4 post (nI a) (nI e) (d + 1) (nI L) (nI m) := by
  intro d
  induction d with
  | zero =>
    intro m L hm h1 h2 h3
    exact br_t (nI_lt (a := 6) (by omega) (by omega)) (H L h1 h2 h3)
  | succ d ih =>
    intro m L hm h1 h2 h3
    have p := xq_p6 (m := m) (by omega)
    have ml : a % 2 ^ m ≤ a := Nat.mod_le _ _
    refine br_f (nI_nlt (a := 6) (by omega) (by omega)) (nm_r (xq_sh (by omega)) (pk_eq (a % 2 ^ m) 0 (fun z => ?_) (fun z => nm_r (nI_1 m) (ih (m + 1) L (by omega) h1 h2 h3)) (xq_an ha (by omega)) rfl (by omega) (by omega)))
    exact pk_lt e (a + 2 ^ m) (fun w => nm_r (nI_1 m) (ih (m + 1) L (by omega) h1 h2 h3)) (fun w => nm_r (nI_1 m) (ih (m + 1) m (by omega) (by omega) z w)) rfl (nI_add _ _) (by omega) (by omega)
theorem xq_lev (post : Int32 → Prop) (a e : Nat) (ha : a < e) (he : e ≤ 64) (H : ∀ L, L ≤ 6 → a % 2 ^ L = 0 → a + 2 ^ L ≤ e → post (nI L)) : wpX_levelFrom post (nI a) (nI e) :=
  ⟨7, xq_lf post a e (by omega) he H 6 1 0 (by omega) (by omega) (by simp only [Nat.pow_zero, Nat.mod_one]) (by simp only [Nat.pow_zero]; omega)⟩
theorem xq_lu (post : Int32 → Prop) (a f : Nat) (ha : a ≤ 64) (hf : f ≤ 64) (H : ∀ L, L ≤ 6 → a % 2 ^ L = 0 → f + 2 ^ L ≤ a → post (nI L)) :
    ∀ d m L : Nat, m + d = 7 → L ≤ 6 → a % 2 ^ L = 0 → f + 2 ^ L ≤ a → wX_levelUpTo_4 post (nI a) (nI f) (d + 1) (nI L) (nI m) := by
  intro d
  induction d with
  | zero =>
    intro m L hm h1 h2 h3
    exact br_t (nI_lt (a := 6) (by omega) (by omega)) (H L h1 h2 h3)
  | succ d ih =>
    intro m L hm h1 h2 h3
    have p := xq_p6 (m := m) (by omega)
    have ml : a % 2 ^ m ≤ a := Nat.mod_le _ _
    refine br_f (nI_nlt (a := 6) (by omega) (by omega)) (nm_r (xq_sh (by omega)) (pk_eq (a % 2 ^ m) 0 (fun z => ?_) (fun z => nm_r (nI_1 m) (ih (m + 1) L (by omega) h1 h2 h3)) (xq_an ha (by omega)) rfl (by omega) (by omega)))
    have k := xq_sl (s := a) (w := 2 ^ m) (f := f) ha (by omega) hf
    by_cases w : a < f + 2 ^ m
    · exact br_t (k.mpr w) (nm_r (nI_1 m) (ih (m + 1) L (by omega) h1 h2 h3))
    · exact br_f (fun x => w (k.mp x)) (nm_r (nI_1 m) (ih (m + 1) m (by omega) (by omega) z (by omega)))
theorem xq_leu (post : Int32 → Prop) (a f : Nat) (ha : a ≤ 64) (hf : f < a) (H : ∀ L, L ≤ 6 → a % 2 ^ L = 0 → f + 2 ^ L ≤ a → post (nI L)) : wpX_levelUpTo post (nI a) (nI f) :=
  ⟨7, xq_lu post a f ha (by omega) H 6 1 0 (by omega) (by omega) (by simp only [Nat.pow_zero, Nat.mod_one]) (by simp only [Nat.pow_zero]; omega)⟩
theorem xq_nd {L a : Nat} (hL : L ≤ 6) (h : a % 2 ^ L = 0) : (64 + a) / 2 ^ L * 2 ^ L = 64 + a := by
  have h6 : L = 0 ∨ L = 1 ∨ L = 2 ∨ L = 3 ∨ L = 4 ∨ L = 5 ∨ L = 6 := by omega
  rcases h6 with rfl | rfl | rfl | rfl | rfl | rfl | rfl <;> simp only [Nat.reducePow] at h ⊢ <;> omega
theorem xq_nu {L a : Nat} (hL : L ≤ 6) (h : a % 2 ^ L = 0) (h2 : 2 ^ L ≤ a) : (64 + a - 1) / 2 ^ L * 2 ^ L = 64 + (a - 2 ^ L) := by
  have h6 : L = 0 ∨ L = 1 ∨ L = 2 ∨ L = 3 ∨ L = 4 ∨ L = 5 ∨ L = 6 := by omega
  rcases h6 with rfl | rfl | rfl | rfl | rfl | rfl | rfl <;> simp only [Nat.reducePow] at h h2 ⊢ <;> omega
theorem xq_lz {post : Int32 → Prop} {x y : Int32} (A B : Nat) (hx : x = nI A) (hy : y = nI B) (hA : A < 2 ^ 31) (hB : B < 2 ^ 31) (H : post (nI (A - B))) : wpX_lessDownToZero post x y := by
  subst hx hy
  refine pk_le A B (fun z => ?_) (fun z => ?_) rfl rfl hA hB
  · rw [show A - B = 0 from by omega] at H; exact H
  · rw [pk_sub (by omega)]; exact H
theorem xq_nz {N w a : Nat} (h : N * w = 64 + a) : 0 < N := by
  cases N with
  | zero => rw [Nat.zero_mul] at h; omega
  | succ N => omega
theorem xq_nb {N L a : Nat} (h : N * 2 ^ L = 64 + a) (ha : a < 64) : N < 128 := by
  have : N * 1 ≤ N * 2 ^ L := Nat.mul_le_mul_left N Nat.one_le_two_pow
  omega
theorem xq_oi (post : Int32 → Prop) (c : Nat) (g o q : Nat → Int32) (k : Nat) (hk1 : 1 ≤ k) (hk3 : k ≤ 3) (hR : tr_R c g o q) (f e : Nat) (he : e ≤ 60) (H : post (nI (hs_o (hs_g c g k) f e))) :
    ∀ d tk i : Nat, tk + d = 60 → f ≤ i → i ≤ e → tk + f ≤ i → wX_opensIn_9 post (nI e) (nI k) (nI c) g o q (d + 1) (nI (hs_o (hs_g c g k) f i)) (nI i) (nI tk) := by
  intro d
  induction d with
  | zero =>
    intro tk i h1 h2 h3 h4
    rw [show i = e from by omega]
    exact br_t (nI_le (a := 60) (by omega) (by omega)) H
  | succ d ih =>
    intro tk i h1 h2 h3 h4
    refine br_f (nI_ge (b := 60) (by omega) (by decide)) (pk_le e i (fun z => ?_) (fun z => ?_))
    · rw [show i = e from by omega]; exact H
    · refine xq_lev _ i e z (by omega) (fun L hL hm hw => ?_)
      have p := xq_p6 hL
      have hN := xq_nd hL hm
      have N0 := xq_nz hN
      have N1 := xq_nb hN (by omega)
      obtain ⟨eo, ec⟩ := hR k hk1 hk3 ((64 + i) / 2 ^ L) L i N0 hL hN (by omega)
      have ex : nI k * 128 + ((64 + nI i) >>> (nI L &&& 31)) = nI (k * 128 + (64 + i) / 2 ^ L) := by
        rw [show (128 : Int32) = nI 128 from rfl, show (64 : Int32) = nI 64 from rfl, pk_mul, nI_add, xq_sr (by omega) hL, nI_add]
      have cx : (nI (k * 128 + (64 + i) / 2 ^ L)).toNatClampNeg = k * 128 + (64 + i) / 2 ^ L := nI_clamp (by omega)
      have v : vp_in (nI (k * 128 + (64 + i) / 2 ^ L)) 512 := vp_in_nI (by omega) (by omega)
      have b1 := hs_ole (hs_g c g k) f i
      have b2 := hs_cle (hs_g c g k) i (i + 2 ^ L)
      have mm := hs_om (hs_g c g k) (a := f) (m := i) (b := i + 2 ^ L) h2 (Nat.le_add_right _ _)
      refine nm_r ex ⟨v, xq_lz (hs_o (hs_g c g k) f i) (hs_c (hs_g c g k) i (i + 2 ^ L)) rfl (by rw [cx]; exact ec) (by omega) (by omega) ⟨v, nm_r (e' := nI (hs_o (hs_g c g k) f (i + 2 ^ L))) ?_ (nm_r (e' := nI (i + 2 ^ L)) ?_ (nm_r (nI_1 tk) (ih (tk + 1) (i + 2 ^ L) (by omega) (by omega) (by omega) (by omega))))⟩⟩
      · rw [cx, eo, nI_add, mm, Nat.add_comm]
      · rw [xq_sh hL, nI_add]
theorem xq_opensIn (post : Int32 → Prop) (c : Nat) (g o q : Nat → Int32) (k : Nat) (hk1 : 1 ≤ k) (hk3 : k ≤ 3) (hR : tr_R c g o q) {f e : Nat} {x0 x1 : Int32} (hf : f ≤ e) (he : e ≤ 60) (e0 : x0 = nI f) (e1 : x1 = nI e) (H : post (nI (hs_o (hs_g c g k) f e))) :
    wpX_opensIn post (nI c, g, o, q) x0 x1 (nI k) := by
  subst e0 e1
  have h := xq_oi post c g o q k hk1 hk3 hR f e he H 60 0 f (by omega) (by omega) hf (by omega)
  rw [hs_oo] at h
  exact ⟨61, h⟩
theorem xq_cl (post : Int32 → Prop) (c : Nat) (g o q : Nat → Int32) (k : Nat) (hk1 : 1 ≤ k) (hk3 : k ≤ 3) (hR : tr_R c g o q) (f e : Nat) (he : e ≤ 60) (H : post (nI (hs_c (hs_g c g k) f e))) :
    ∀ d tk i : Nat, tk + d = 60 → f ≤ i → i ≤ e → tk + i ≤ e → wX_closesIn_9 post (nI f) (nI k) (nI c) g o q (d + 1) (nI (hs_c (hs_g c g k) i e)) (nI i) (nI tk) := by
  intro d
  induction d with
  | zero =>
    intro tk i h1 h2 h3 h4
    rw [show i = f from by omega]
    exact br_t (nI_le (a := 60) (by omega) (by omega)) H
  | succ d ih =>
    intro tk i h1 h2 h3 h4
    refine br_f (nI_ge (b := 60) (by omega) (by decide)) (pk_le i f (fun z => ?_) (fun z => ?_))
    · rw [show i = f from by omega]; exact H
    · refine xq_leu _ i f (by omega) z (fun L hL hm hw => ?_)
      have p := xq_p6 hL
      have hN := xq_nu hL hm (by omega)
      have N0 := xq_nz hN
      have N1 := xq_nb hN (by omega)
      obtain ⟨eo, ec⟩ := hR k hk1 hk3 ((64 + i - 1) / 2 ^ L) L (i - 2 ^ L) N0 hL hN (by omega)
      rw [show i - 2 ^ L + 2 ^ L = i from by omega] at eo ec
      have ex : nI k * 128 + ((64 + nI i - 1) >>> (nI L &&& 31)) = nI (k * 128 + (64 + i - 1) / 2 ^ L) := by
        rw [show (128 : Int32) = nI 128 from rfl, show (64 : Int32) = nI 64 from rfl, show (1 : Int32) = nI 1 from rfl, pk_mul, nI_add, pk_sub (by omega), xq_sr (by omega) hL, nI_add]
      have cx : (nI (k * 128 + (64 + i - 1) / 2 ^ L)).toNatClampNeg = k * 128 + (64 + i - 1) / 2 ^ L := nI_clamp (by omega)
      have v : vp_in (nI (k * 128 + (64 + i - 1) / 2 ^ L)) 512 := vp_in_nI (by omega) (by omega)
      have b1 := hs_cle (hs_g c g k) i e
      have b2 := hs_ole (hs_g c g k) (i - 2 ^ L) i
      have mm := hs_cm (hs_g c g k) (a := i - 2 ^ L) (m := i) (b := e) (by omega) h3
      refine nm_r ex ⟨v, xq_lz (hs_c (hs_g c g k) i e) (hs_o (hs_g c g k) (i - 2 ^ L) i) rfl (by rw [cx]; exact eo) (by omega) (by omega) ⟨v, nm_r (e' := nI (hs_c (hs_g c g k) (i - 2 ^ L) e)) ?_ (nm_r (e' := nI (i - 2 ^ L)) ?_ (nm_r (nI_1 tk) (ih (tk + 1) (i - 2 ^ L) (by omega) (by omega) (by omega) (by omega))))⟩⟩
      · rw [cx, ec, nI_add, mm, Nat.add_comm]
      · rw [xq_sh hL, pk_sub (by omega)]
theorem xq_closesIn (post : Int32 → Prop) (c : Nat) (g o q : Nat → Int32) (k : Nat) (hk1 : 1 ≤ k) (hk3 : k ≤ 3) (hR : tr_R c g o q) {f e : Nat} {x0 x1 : Int32} (hf : f ≤ e) (he : e ≤ 60) (e0 : x0 = nI f) (e1 : x1 = nI e) (H : post (nI (hs_c (hs_g c g k) f e))) :
    wpX_closesIn post (nI c, g, o, q) x0 x1 (nI k) := by
  subst e0 e1
  have h := xq_cl post c g o q k hk1 hk3 hR f e he H 60 0 e (by omega) hf (by omega) (by omega)
  rw [hs_cc] at h
  exact ⟨61, h⟩
end
section
/-! the component's climbs and descents -/
theorem xf_ci (post : Int32 → Prop) (c : Nat) (g o q : Nat → Int32) (k : Nat) (hk1 : 1 ≤ k) (hk3 : k ≤ 3) (hR : tr_R c g o q) :
    ∀ L node a pd : Nat, L ≤ 6 → node * 2 ^ L = 64 + a → a < 64 → 1 ≤ pd → pd ≤ hs_c (hs_g c g k) a (a + 2 ^ L) →
      (∀ j, a ≤ j → j < a + 2 ^ L → hs_c (hs_g c g k) a j < pd → pd ≤ hs_c (hs_g c g k) a (j + 1) → post (nI j)) →
      wX_closingInside_10 post (nI k) (nI c) g o q (L + 1) (nI node) (nI pd) (nI L) := by
  intro L
  induction L with
  | zero =>
    intro node a pd hL hN ha h1 hp H
    rw [Nat.pow_zero] at hN hp H
    rw [show node = 64 + a from by omega]
    refine br_t (nI_le (a := 0) (b := 0) (by decide) (by decide)) ?_
    rw [show nI (64 + a) - 64 = nI a from by rw [show (64 : Int32) = nI 64 from rfl, pk_sub (by omega)]; exact congrArg nI (by omega)]
    exact H a (by omega) (by omega) (by rw [hs_cc]; omega) hp
  | succ L ih =>
    intro node a pd hL hN ha h1 hp H
    obtain ⟨k1, k2, k3⟩ := tr_kid (by omega) hN ha
    have p := xq_p6 (m := L) (by omega)
    have n1 := xq_nb k1 ha
    have n2 := xq_nb k2 k3
    obtain ⟨eo, ec⟩ := hR k hk1 hk3 (2 * node) L a (xq_nz k1) (by omega) k1 ha
    have ew : a + 2 ^ (L + 1) = a + 2 ^ L + 2 ^ L := by rw [Nat.pow_succ]; omega
    rw [ew] at hp H
    have ex : nI k * 128 + nI (2 * node) = nI (k * 128 + 2 * node) := by rw [show (128 : Int32) = nI 128 from rfl, pk_mul, nI_add]
    have cx : (nI (k * 128 + 2 * node)).toNatClampNeg = k * 128 + 2 * node := nI_clamp (by omega)
    have v : vp_in (nI (k * 128 + 2 * node)) 512 := vp_in_nI (by omega) (by omega)
    have b1 := hs_cle (hs_g c g k) a (a + 2 ^ L)
    have b2 := hs_ole (hs_g c g k) a (a + 2 ^ L)
    have b3 := hs_cle (hs_g c g k) a (a + 2 ^ L + 2 ^ L)
    have mm := hs_cm (hs_g c g k) (a := a) (m := a + 2 ^ L) (b := a + 2 ^ L + 2 ^ L) (Nat.le_add_right _ _) (Nat.le_add_right _ _)
    refine br_f (nI_nle (by omega) (by omega)) (nm_r (pk_mul 2 node) (nm_r ex ⟨v, pk_le pd (hs_c (hs_g c g k) a (a + 2 ^ L)) (fun z => ?_) (fun z => ?_) rfl (by rw [cx]; exact ec) (by omega) (by omega)⟩))
    · exact nm_r (pk_m1 L) (ih (2 * node) a pd (by omega) k1 ha h1 z (fun j a1 a2 a3 a4 => H j a1 (by omega) a3 a4))
    · refine ⟨v, v, nm_r (e' := nI (pd + hs_o (hs_g c g k) a (a + 2 ^ L) - hs_c (hs_g c g k) a (a + 2 ^ L))) ?_ (nm_r (nI_1 (2 * node)) (nm_r (pk_m1 L) (ih (2 * node + 1) (a + 2 ^ L) _ (by omega) k2 k3 (by omega) (by omega) ?_)))⟩
      · rw [cx, eo, ec]; exact xq_ad (by omega)
      · intro j a1 a2 a3 a4
        have m1 := hs_cm (hs_g c g k) (a := a) (m := a + 2 ^ L) (b := j) (Nat.le_add_right _ _) a1
        have m2 := hs_cm (hs_g c g k) (a := a) (m := a + 2 ^ L) (b := j + 1) (Nat.le_add_right _ _) (by omega)
        exact H j (by omega) a2 (by omega) (by omega)
theorem xf_ev {i L E : Nat} (hL : L ≤ 5) (hi : i < 64) (hE : E + 64 = ((64 + i) / 2 ^ L + 1) * 2 ^ L) (h : (64 + i) / 2 ^ L % 2 = 0) :
    E + 2 ^ L + 64 = ((64 + i) / 2 ^ (L + 1) + 1) * 2 ^ (L + 1) ∧ E + 2 ^ L ≤ 64 ∧ ((64 + i) / 2 ^ L + 1) * 2 ^ L = 64 + E := by
  have h6 : L = 0 ∨ L = 1 ∨ L = 2 ∨ L = 3 ∨ L = 4 ∨ L = 5 := by omega
  rcases h6 with rfl | rfl | rfl | rfl | rfl | rfl <;> simp only [Nat.reducePow, Nat.reduceAdd] at hE h ⊢ <;> omega
theorem xf_od {i L E : Nat} (hL : L ≤ 5) (hi : i < 64) (hE : E + 64 = ((64 + i) / 2 ^ L + 1) * 2 ^ L) (h : ¬ (64 + i) / 2 ^ L % 2 = 0) :
    E + 64 = ((64 + i) / 2 ^ (L + 1) + 1) * 2 ^ (L + 1) := by
  have h6 : L = 0 ∨ L = 1 ∨ L = 2 ∨ L = 3 ∨ L = 4 ∨ L = 5 := by omega
  rcases h6 with rfl | rfl | rfl | rfl | rfl | rfl <;> simp only [Nat.reducePow, Nat.reduceAdd] at hE h ⊢ <;> omega
theorem xf_cr (post : Int32 → Prop) (c : Nat) (g o q : Nat → Int32) (k : Nat) (hk1 : 1 ≤ k) (hk3 : k ≤ 3) (hR : tr_R c g o q) (i : Nat) (hi : i < 64)
    (H1 : ∀ j, i < j → hs_c (hs_g c g k) (i + 1) j = 0 → 1 ≤ hs_c (hs_g c g k) (i + 1) (j + 1) → post (nI j)) (H2 : hs_c (hs_g c g k) (i + 1) 64 = 0 → post (-3)) :
    ∀ d L E : Nat, L + d = 6 → E + 64 = ((64 + i) / 2 ^ L + 1) * 2 ^ L → i < E → E ≤ 64 → hs_c (hs_g c g k) (i + 1) E = 0 →
      wX_closingRightOf_5 post (nI i) (nI k) (nI c) g o q (d + 1) (nI (1 + hs_o (hs_g c g k) (i + 1) E)) (nI L) := by
  intro d
  induction d with
  | zero =>
    intro L E h1 hE h2 h3 h4
    rw [show L = 6 from by omega] at hE
    rw [show E = 64 from by omega] at h4
    exact br_t (nI_le (a := 6) (by omega) (by omega)) (H2 h4)
  | succ d ih =>
    intro L E h1 hE h2 h3 h4
    have p := xq_p6 (m := L) (by omega)
    have dl : (64 + i) / 2 ^ L ≤ 64 + i := Nat.div_le_self _ _
    have en : (64 + nI i) >>> (nI L &&& 31) = nI ((64 + i) / 2 ^ L) := by
      rw [show (64 : Int32) = nI 64 from rfl, nI_add, xq_sr (by omega) (by omega)]
    refine br_f (nI_ge (b := 6) (by omega) (by decide)) (nm_r en ⟨by decide, pk_eq ((64 + i) / 2 ^ L % 2) 0 (fun z => ?_) (fun z => ?_) (pk_rem (d := 2) (by omega) (by decide) (by decide)) rfl (by omega) (by omega)⟩)
    · obtain ⟨q1, q2, q3⟩ := xf_ev (by omega) hi hE z
      have n1 := xq_nb q3 (by omega)
      obtain ⟨eo, ec⟩ := hR k hk1 hk3 ((64 + i) / 2 ^ L + 1) L E (Nat.succ_pos _) (by omega) q3 (by omega)
      have ex : nI k * 128 + nI ((64 + i) / 2 ^ L) + 1 = nI (k * 128 + ((64 + i) / 2 ^ L + 1)) := by
        rw [show (128 : Int32) = nI 128 from rfl, pk_mul, nI_add, nI_1, Nat.add_assoc]
      have cx : (nI (k * 128 + ((64 + i) / 2 ^ L + 1))).toNatClampNeg = k * 128 + ((64 + i) / 2 ^ L + 1) := nI_clamp (by omega)
      have v : vp_in (nI (k * 128 + ((64 + i) / 2 ^ L + 1))) 512 := vp_in_nI (by omega) (by omega)
      have b1 := hs_cle (hs_g c g k) E (E + 2 ^ L)
      have b2 := hs_ole (hs_g c g k) E (E + 2 ^ L)
      have b3 := hs_ole (hs_g c g k) (i + 1) E
      have m1 := hs_om (hs_g c g k) (a := i + 1) (m := E) (b := E + 2 ^ L) h2 (Nat.le_add_right _ _)
      have m2 := hs_cm (hs_g c g k) (a := i + 1) (m := E) (b := E + 2 ^ L) h2 (Nat.le_add_right _ _)
      refine nm_r ex ⟨v, pk_lt (hs_c (hs_g c g k) E (E + 2 ^ L)) (1 + hs_o (hs_g c g k) (i + 1) E) (fun w => ?_) (fun w => ?_) (by rw [cx]; exact ec) rfl (by omega) (by omega)⟩
      · refine ⟨v, v, nm_r (e' := nI (1 + hs_o (hs_g c g k) (i + 1) (E + 2 ^ L))) ?_ (nm_r (nI_1 L) (ih (L + 1) (E + 2 ^ L) (by omega) q1 (by omega) q2 (by omega)))⟩
        rw [cx, eo, ec, xq_ad (by omega)]
        exact congrArg nI (by omega)
      · have e1 : nI ((64 + i) / 2 ^ L) + 1 = nI ((64 + i) / 2 ^ L + 1) := nI_1 _
        rw [e1]
        refine ⟨L + 1, xf_ci _ c g o q k hk1 hk3 hR L ((64 + i) / 2 ^ L + 1) E _ (by omega) q3 (by omega) (by omega) w (fun j a1 a2 a3 a4 => ?_)⟩
        have m3 := hs_cm (hs_g c g k) (a := i + 1) (m := E) (b := j) h2 a1
        have m4 := hs_cm (hs_g c g k) (a := i + 1) (m := E) (b := j + 1) h2 (by omega)
        exact H1 j (by omega) (by omega) (by omega)
    · exact nm_r (nI_1 L) (ih (L + 1) E (by omega) (xf_od (by omega) hi hE z) h2 h3 h4)
theorem xf_closing (post : Int32 → Prop) (c : Nat) (g o q : Nat → Int32) (k : Nat) (hk1 : 1 ≤ k) (hk3 : k ≤ 3) (hR : tr_R c g o q) (i : Nat) (hi : i < 64)
    (H1 : ∀ j, i < j → hs_c (hs_g c g k) (i + 1) j = 0 → 1 ≤ hs_c (hs_g c g k) (i + 1) (j + 1) → post (nI j)) (H2 : hs_c (hs_g c g k) (i + 1) 64 = 0 → post (-3)) :
    wpX_closingRightOf post (nI c, g, o, q) (nI i) (nI k) := by
  have h := xf_cr post c g o q k hk1 hk3 hR i hi H1 H2 6 0 (i + 1) (by omega) (by simp only [Nat.pow_zero, Nat.div_one]; omega) (by omega) (by omega) (hs_cc _ _)
  rw [hs_oo] at h
  exact ⟨7, h⟩
theorem xf_op (post : Int32 → Prop) (c : Nat) (g o q : Nat → Int32) (k : Nat) (hk1 : 1 ≤ k) (hk3 : k ≤ 3) (hR : tr_R c g o q) :
    ∀ L node a pd : Nat, L ≤ 6 → node * 2 ^ L = 64 + a → a < 64 → 1 ≤ pd → pd ≤ hs_o (hs_g c g k) a (a + 2 ^ L) →
      (∀ j, a ≤ j → j < a + 2 ^ L → hs_o (hs_g c g k) (j + 1) (a + 2 ^ L) < pd → pd ≤ hs_o (hs_g c g k) j (a + 2 ^ L) → post (nI j)) →
      wX_openingInside_10 post (nI k) (nI c) g o q (L + 1) (nI node) (nI pd) (nI L) := by
  intro L
  induction L with
  | zero =>
    intro node a pd hL hN ha h1 hp H
    rw [Nat.pow_zero] at hN hp H
    rw [show node = 64 + a from by omega]
    refine br_t (nI_le (a := 0) (b := 0) (by decide) (by decide)) ?_
    rw [show nI (64 + a) - 64 = nI a from by rw [show (64 : Int32) = nI 64 from rfl, pk_sub (by omega)]; exact congrArg nI (by omega)]
    exact H a (by omega) (by omega) (by rw [hs_oo]; omega) hp
  | succ L ih =>
    intro node a pd hL hN ha h1 hp H
    obtain ⟨k1, k2, k3⟩ := tr_kid (by omega) hN ha
    have p := xq_p6 (m := L) (by omega)
    have n1 := xq_nb k1 ha
    have n2 := xq_nb k2 k3
    obtain ⟨eo, ec⟩ := hR k hk1 hk3 (2 * node + 1) L (a + 2 ^ L) (by omega) (by omega) k2 k3
    have ew : a + 2 ^ (L + 1) = a + 2 ^ L + 2 ^ L := by rw [Nat.pow_succ]; omega
    rw [ew] at hp H
    have e2 : 2 * nI node + 1 = nI (2 * node + 1) := by rw [show (2 : Int32) = nI 2 from rfl, pk_mul, nI_1]
    have ex : nI k * 128 + nI (2 * node + 1) = nI (k * 128 + (2 * node + 1)) := by rw [show (128 : Int32) = nI 128 from rfl, pk_mul, nI_add]
    have cx : (nI (k * 128 + (2 * node + 1))).toNatClampNeg = k * 128 + (2 * node + 1) := nI_clamp (by omega)
    have v : vp_in (nI (k * 128 + (2 * node + 1))) 512 := vp_in_nI (by omega) (by omega)
    have b1 := hs_cle (hs_g c g k) (a + 2 ^ L) (a + 2 ^ L + 2 ^ L)
    have b2 := hs_ole (hs_g c g k) (a + 2 ^ L) (a + 2 ^ L + 2 ^ L)
    have b3 := hs_ole (hs_g c g k) a (a + 2 ^ L + 2 ^ L)
    have mm := hs_om (hs_g c g k) (a := a) (m := a + 2 ^ L) (b := a + 2 ^ L + 2 ^ L) (Nat.le_add_right _ _) (Nat.le_add_right _ _)
    refine br_f (nI_nle (by omega) (by omega)) (nm_r e2 (nm_r ex ⟨v, pk_le pd (hs_o (hs_g c g k) (a + 2 ^ L) (a + 2 ^ L + 2 ^ L)) (fun z => ?_) (fun z => ?_) rfl (by rw [cx]; exact eo) (by omega) (by omega)⟩))
    · exact nm_r (pk_m1 L) (ih (2 * node + 1) (a + 2 ^ L) pd (by omega) k2 k3 h1 z (fun j a1 a2 a3 a4 => H j (by omega) a2 a3 a4))
    · refine ⟨v, v, nm_r (e' := nI (pd + hs_c (hs_g c g k) (a + 2 ^ L) (a + 2 ^ L + 2 ^ L) - hs_o (hs_g c g k) (a + 2 ^ L) (a + 2 ^ L + 2 ^ L))) ?_ (nm_r (pk_m1 (2 * node)) (nm_r (pk_m1 L) (ih (2 * node) a _ (by omega) k1 ha (by omega) (by omega) ?_)))⟩
      · rw [cx, eo, ec]; exact xq_ad (by omega)
      · intro j a1 a2 a3 a4
        have m1 := hs_om (hs_g c g k) (a := j) (m := a + 2 ^ L) (b := a + 2 ^ L + 2 ^ L) (by omega) (Nat.le_add_right _ _)
        have m2 := hs_om (hs_g c g k) (a := j + 1) (m := a + 2 ^ L) (b := a + 2 ^ L + 2 ^ L) (by omega) (Nat.le_add_right _ _)
        exact H j a1 (by omega) (by omega) (by omega)
theorem xf_od2 {i L B : Nat} (hL : L ≤ 5) (hi : i < 64) (hB : B + 64 = (64 + i) / 2 ^ L * 2 ^ L) (h : (64 + i) / 2 ^ L % 2 = 1) :
    (B - 2 ^ L) + 64 = (64 + i) / 2 ^ (L + 1) * 2 ^ (L + 1) ∧ 2 ^ L ≤ B ∧ ((64 + i) / 2 ^ L - 1) * 2 ^ L = 64 + (B - 2 ^ L) := by
  have h6 : L = 0 ∨ L = 1 ∨ L = 2 ∨ L = 3 ∨ L = 4 ∨ L = 5 := by omega
  rcases h6 with rfl | rfl | rfl | rfl | rfl | rfl <;> simp only [Nat.reducePow, Nat.reduceAdd] at hB h ⊢ <;> omega
theorem xf_ev2 {i L B : Nat} (hL : L ≤ 5) (hi : i < 64) (hB : B + 64 = (64 + i) / 2 ^ L * 2 ^ L) (h : ¬ (64 + i) / 2 ^ L % 2 = 1) :
    B + 64 = (64 + i) / 2 ^ (L + 1) * 2 ^ (L + 1) := by
  have h6 : L = 0 ∨ L = 1 ∨ L = 2 ∨ L = 3 ∨ L = 4 ∨ L = 5 := by omega
  rcases h6 with rfl | rfl | rfl | rfl | rfl | rfl <;> simp only [Nat.reducePow, Nat.reduceAdd] at hB h ⊢ <;> omega
theorem xf_ol (post : Int32 → Prop) (c : Nat) (g o q : Nat → Int32) (k : Nat) (hk1 : 1 ≤ k) (hk3 : k ≤ 3) (hR : tr_R c g o q) (i : Nat) (hi : i < 64)
    (H1 : ∀ j, j < i → hs_o (hs_g c g k) (j + 1) i = 0 → 1 ≤ hs_o (hs_g c g k) j i → post (nI j)) (H2 : hs_o (hs_g c g k) 0 i = 0 → post (-3)) :
    ∀ d L B : Nat, L + d = 6 → B + 64 = (64 + i) / 2 ^ L * 2 ^ L → B ≤ i → hs_o (hs_g c g k) B i = 0 →
      wX_openingLeftOf_5 post (nI i) (nI k) (nI c) g o q (d + 1) (nI (1 + hs_c (hs_g c g k) B i)) (nI L) := by
  intro d
  induction d with
  | zero =>
    intro L B h1 hB h2 h4
    rw [show L = 6 from by omega] at hB
    rw [show B = 0 from by omega] at h4
    exact br_t (nI_le (a := 6) (by omega) (by omega)) (H2 h4)
  | succ d ih =>
    intro L B h1 hB h2 h4
    have p := xq_p6 (m := L) (by omega)
    have dl : (64 + i) / 2 ^ L ≤ 64 + i := Nat.div_le_self _ _
    have en : (64 + nI i) >>> (nI L &&& 31) = nI ((64 + i) / 2 ^ L) := by
      rw [show (64 : Int32) = nI 64 from rfl, nI_add, xq_sr (by omega) (by omega)]
    refine br_f (nI_ge (b := 6) (by omega) (by decide)) (nm_r en ⟨by decide, pk_eq ((64 + i) / 2 ^ L % 2) 1 (fun z => ?_) (fun z => ?_) (pk_rem (d := 2) (by omega) (by decide) (by decide)) rfl (by omega) (by omega)⟩)
    · obtain ⟨q1, q2, q3⟩ := xf_od2 (by omega) hi hB z
      have n0 := xq_nz q3
      have n1 := xq_nb q3 (by omega)
      obtain ⟨eo, ec⟩ := hR k hk1 hk3 ((64 + i) / 2 ^ L - 1) L (B - 2 ^ L) n0 (by omega) q3 (by omega)
      rw [show B - 2 ^ L + 2 ^ L = B from by omega] at eo ec
      have ex : nI k * 128 + nI ((64 + i) / 2 ^ L) - 1 = nI (k * 128 + ((64 + i) / 2 ^ L - 1)) := by
        rw [show (128 : Int32) = nI 128 from rfl, show (1 : Int32) = nI 1 from rfl, pk_mul, nI_add, pk_sub (by omega)]
        exact congrArg nI (by omega)
      have cx : (nI (k * 128 + ((64 + i) / 2 ^ L - 1))).toNatClampNeg = k * 128 + ((64 + i) / 2 ^ L - 1) := nI_clamp (by omega)
      have v : vp_in (nI (k * 128 + ((64 + i) / 2 ^ L - 1))) 512 := vp_in_nI (by omega) (by omega)
      have b1 := hs_cle (hs_g c g k) (B - 2 ^ L) B
      have b2 := hs_ole (hs_g c g k) (B - 2 ^ L) B
      have b3 := hs_cle (hs_g c g k) B i
      have m1 := hs_om (hs_g c g k) (a := B - 2 ^ L) (m := B) (b := i) (by omega) h2
      have m2 := hs_cm (hs_g c g k) (a := B - 2 ^ L) (m := B) (b := i) (by omega) h2
      refine nm_r ex ⟨v, pk_lt (hs_o (hs_g c g k) (B - 2 ^ L) B) (1 + hs_c (hs_g c g k) B i) (fun w => ?_) (fun w => ?_) (by rw [cx]; exact eo) rfl (by omega) (by omega)⟩
      · refine ⟨v, v, nm_r (e' := nI (1 + hs_c (hs_g c g k) (B - 2 ^ L) i)) ?_ (nm_r (nI_1 L) (ih (L + 1) (B - 2 ^ L) (by omega) q1 (by omega) (by omega)))⟩
        rw [cx, eo, ec, xq_ad (by omega)]
        exact congrArg nI (by omega)
      · have e1 : nI ((64 + i) / 2 ^ L) - 1 = nI ((64 + i) / 2 ^ L - 1) := by
          rw [show (1 : Int32) = nI 1 from rfl, pk_sub (by omega)]
        rw [e1]
        refine ⟨L + 1, xf_op _ c g o q k hk1 hk3 hR L ((64 + i) / 2 ^ L - 1) (B - 2 ^ L) _ (by omega) q3 (by omega) (by omega) ?_ (fun j a1 a2 a3 a4 => ?_)⟩
        · rw [show B - 2 ^ L + 2 ^ L = B from by omega]; exact w
        · rw [show B - 2 ^ L + 2 ^ L = B from by omega] at a2 a3 a4
          have m3 := hs_om (hs_g c g k) (a := j) (m := B) (b := i) (by omega) h2
          have m4 := hs_om (hs_g c g k) (a := j + 1) (m := B) (b := i) (by omega) h2
          exact H1 j (by omega) (by omega) (by omega)
    · exact nm_r (nI_1 L) (ih (L + 1) B (by omega) (xf_ev2 (by omega) hi hB z) h2 h4)
theorem xf_opening (post : Int32 → Prop) (c : Nat) (g o q : Nat → Int32) (k : Nat) (hk1 : 1 ≤ k) (hk3 : k ≤ 3) (hR : tr_R c g o q) (i : Nat) {x0 x1 : Int32} (e0 : x0 = nI i) (e1 : x1 = nI k) (hi : i < 64)
    (H1 : ∀ j, j < i → hs_o (hs_g c g k) (j + 1) i = 0 → 1 ≤ hs_o (hs_g c g k) j i → post (nI j)) (H2 : hs_o (hs_g c g k) 0 i = 0 → post (-3)) :
    wpX_openingLeftOf post (nI c, g, o, q) x0 x1 := by
  subst e0 e1
  have h := xf_ol post c g o q k hk1 hk3 hR i hi H1 H2 6 0 i (by omega) (by simp only [Nat.pow_zero, Nat.div_one]; omega) (by omega) (hs_oo _ _)
  rw [hs_cc] at h
  exact ⟨7, h⟩
end
section
/-! the reference's walks -/
theorem yq_73 (post : Int32 → Prop) (J : Int32 → Int32 → Prop) (x2 x3 f : Int32) (g p : Nat → Int32) (A m : Nat) (hA : A < 2 ^ 31) (H : J (nI A) (nI (m + 1))) : wY_isPair_73 post J x2 x3 (nI A) (nI m) f g p :=
  br_t (nI_pos' hA) (nm_r (nI_1 m) H)
theorem yq_ip (post : Int32 → Prop) (c : Nat) (hc : c ≤ 60) (g p : Nat → Int32) (k : Nat) (hk3 : k ≤ 3) (i j : Nat) (hj : j ≤ c)
    (H1 : hs_o (hs_g c g k) (i + 1) j = 0 → hs_c (hs_g c g k) (i + 1) j = 0 → post 1) (H0 : ¬ (hs_o (hs_g c g k) (i + 1) j = 0 ∧ hs_c (hs_g c g k) (i + 1) j = 0) → post 0) :
    ∀ d m : Nat, m + d = j → i + 1 ≤ m → hs_c (hs_g c g k) (i + 1) m = 0 → wY_isPair_37 post (nI j) (nI k) (nI c) g p (d + 1) (nI (hs_o (hs_g c g k) (i + 1) m)) (nI m) := by
  intro d
  induction d with
  | zero =>
    intro m h1 h2 h3
    rw [show m = j from by omega] at h3 ⊢
    have b := hs_ole (hs_g c g k) (i + 1) j
    exact br_t (nI_le (by omega) (by omega)) (pk_eq (hs_o (hs_g c g k) (i + 1) j) 0 (fun z => H1 z h3) (fun z => H0 (fun y => z y.1)) rfl rfl (by omega) (by omega))
  | succ d ih =>
    intro m h1 h2 h3
    have b := hs_ole (hs_g c g k) (i + 1) m
    have v : vp_in (nI m) 60 := vp_in_nI (by omega) (by omega)
    have cm : (nI m).toNatClampNeg = m := nI_clamp (by omega)
    have mo := hs_om (hs_g c g k) (a := i + 1) (m := m) (b := m + 1) h2 (by omega)
    have mc := hs_cm (hs_g c g k) (a := i + 1) (m := m) (b := m + 1) h2 (by omega)
    have g1 := hs_g1 (c := c) (g := g) (k := k) (j := m) (by omega)
    have g2 := hs_g2 (c := c) (g := g) (k := k) (j := m) hk3 (by omega)
    have e3 : nI k + 3 = nI (k + 3) := nI_add k 3
    refine br_f (nI_ge (by omega) (by omega)) ⟨v, ?_⟩
    rcases hs_1 (hs_g c g k) m with ⟨x, y, z⟩ | ⟨x, y, z⟩ | ⟨x, x', y, z⟩
    · have n2 : ¬ g m = nI (k + 3) := fun w => by rw [g2.mpr w] at x; exact absurd x (by decide)
      refine br_t (by rw [cm]; exact g1.mp x) (nm_r (nI_1 _) ⟨v, br_f (by rw [cm, e3]; exact n2) (yq_73 _ _ _ _ _ _ _ _ m (by omega) ?_)⟩)
      have h := ih (m + 1) (by omega) (by omega) (by omega)
      rw [show hs_o (hs_g c g k) (i + 1) (m + 1) = hs_o (hs_g c g k) (i + 1) m + 1 from by omega] at h
      exact h
    · have n1 : ¬ g m = nI k := fun w => by rw [g1.mpr w] at x; exact absurd x (by decide)
      refine br_f (by rw [cm]; exact n1) ⟨v, br_t (by rw [cm, e3]; exact g2.mp x) ?_⟩
      by_cases w : hs_o (hs_g c g k) (i + 1) m = 0
      · have mono := hs_cmono (hs_g c g k) (a := i + 1) (m := m + 1) (b := j) (by omega) (by omega)
        rw [w]
        exact nm_e (br_f (by decide) (H0 (fun u => by omega)))
      · obtain ⟨A, hA⟩ : ∃ A, hs_o (hs_g c g k) (i + 1) m = A + 1 := ⟨hs_o (hs_g c g k) (i + 1) m - 1, by omega⟩
        rw [hA]
        refine nm_r (pk_m1 A) (yq_73 _ _ _ _ _ _ _ A m (by omega) ?_)
        have h := ih (m + 1) (by omega) (by omega) (by omega)
        rw [show hs_o (hs_g c g k) (i + 1) (m + 1) = A from by omega] at h
        exact h
    · refine br_f (by rw [cm]; exact fun w => x (g1.mpr w)) ⟨v, br_f (by rw [cm, e3]; exact fun w => x' (g2.mpr w)) (yq_73 _ _ _ _ _ _ _ _ m (by omega) ?_)⟩
      have h := ih (m + 1) (by omega) (by omega) (by omega)
      rw [show hs_o (hs_g c g k) (i + 1) (m + 1) = hs_o (hs_g c g k) (i + 1) m from by omega] at h
      exact h
theorem yq_pair (post : Int32 → Prop) (c : Nat) (hc : c ≤ 60) (g p : Nat → Int32) (k : Nat) (hk3 : k ≤ 3) (i j : Nat) (hi : i < c) (hj : j < c)
    (H1 : hs_pr (hs_g c g k) i j → post 1) (H0 : ¬ hs_pr (hs_g c g k) i j → post 0) : wpY_isPair post (nI c, g, p) (nI i) (nI j) (nI k) := by
  have vi : vp_in (nI i) 60 := vp_in_nI (by omega) (by omega)
  have vj : vp_in (nI j) 60 := vp_in_nI (by omega) (by omega)
  have ci : (nI i).toNatClampNeg = i := nI_clamp (by omega)
  have cj : (nI j).toNatClampNeg = j := nI_clamp (by omega)
  have e3 : nI k + 3 = nI (k + 3) := nI_add k 3
  refine pk_le j i (fun z => H0 (fun w => by have := w.1; omega)) (fun z => ⟨vi, ?_⟩)
  by_cases h1 : g i = nI k
  · refine br_t (by rw [ci]; exact h1) ⟨vj, ?_⟩
    by_cases h2 : g j = nI (k + 3)
    · refine br_t (by rw [cj, e3]; exact h2) (nm_r (nI_1 i) ⟨j - (i + 1) + 1, ?_⟩)
      have h := yq_ip post c hc g p k hk3 i j (by omega) (fun a b => H1 ⟨z, (hs_g1 hi).mpr h1, (hs_g2 hk3 hj).mpr h2, a, b⟩) (fun a => H0 (fun w => a ⟨w.2.2.2.1, w.2.2.2.2⟩)) (j - (i + 1)) (i + 1) (by omega) (by omega) (hs_cc _ _)
      rw [hs_oo] at h
      exact h
    · exact br_f (by rw [cj, e3]; exact h2) (H0 (fun w => h2 ((hs_g2 hk3 hj).mp w.2.2.1)))
  · exact br_f (by rw [ci]; exact h1) (H0 (fun w => h1 ((hs_g1 hi).mp w.2.1)))
theorem yq_m36 (post : Int32 → Prop) (c : Nat) (hc : c ≤ 60) (g p : Nat → Int32) (k : Nat) (hk3 : k ≤ 3) (i f t : Nat) (hi : i < c) (ht : t ≤ c)
    (H1 : ∀ j, f ≤ j → j < t → (hs_pr (hs_g c g k) i j ∨ hs_pr (hs_g c g k) j i) → post (nI j))
    (H0 : (∀ j, f ≤ j → j < t → ¬ (hs_pr (hs_g c g k) i j ∨ hs_pr (hs_g c g k) j i)) → post (-3)) :
    ∀ d m : Nat, m + d = t → f ≤ m → (∀ j, f ≤ j → j < m → ¬ (hs_pr (hs_g c g k) i j ∨ hs_pr (hs_g c g k) j i)) →
      wY_mate_36 post (nI i) (nI t) (nI k) (nI c) g p (d + 1) (nI m) := by
  intro d
  induction d with
  | zero =>
    intro m h1 h2 h3
    exact br_t (nI_le (by omega) (by omega)) (H0 (fun j a b => h3 j a (by omega)))
  | succ d ih =>
    intro m h1 h2 h3
    refine br_f (nI_ge (by omega) (by omega)) (yq_pair _ c hc g p k hk3 i m hi (by omega) (fun z => br_f (by decide) (H1 m h2 (by omega) (Or.inl z))) (fun z => br_t rfl (yq_pair _ c hc g p k hk3 m i (by omega) hi (fun w => br_f (by decide) (H1 m h2 (by omega) (Or.inr w))) (fun w => br_t rfl (nm_r (nI_1 m) (ih (m + 1) (by omega) (by omega) ?_))))))
    intro j a b
    by_cases e : j = m
    · subst e; exact fun y => y.elim z w
    · exact h3 j a (by omega)
theorem yq_mateO (post : Int32 → Prop) (c : Nat) (hc : c ≤ 60) (g p : Nat → Int32) (k : Nat) (hk1 : 1 ≤ k) (hk3 : k ≤ 3) (i f t : Nat) {x1 x2 : Int32} (e1 : x1 = nI f) (e2 : x2 = nI t) (hi : i < c) (hft : f ≤ t) (ht : t ≤ c) (hg : g i = nI k)
    (H1 : ∀ j, f ≤ j → j < t → hs_pr (hs_g c g k) i j → post (nI j)) (H0 : (∀ j, f ≤ j → j < t → ¬ hs_pr (hs_g c g k) i j) → post (-3)) :
    wpY_mate post (nI c, g, p) (nI i) x1 x2 := by
  subst e1 e2
  have ci : (nI i).toNatClampNeg = i := nI_clamp (by omega)
  have no : ∀ j, ¬ hs_pr (hs_g c g k) j i := fun j w => by
    have a := w.2.2.1
    rw [(hs_g1 hi).mpr hg] at a
    exact absurd a (by decide)
  refine ⟨vp_in_nI (by omega) (by omega), nm_r (e' := nI k) (by rw [ci]; exact hg) (br_f (nI_nlt (a := 3) hk3 (by decide)) (br_f (nI_ne0 hk1 (by omega)) ⟨t - f + 1, ?_⟩))⟩
  exact yq_m36 post c hc g p k hk3 i f t hi ht (fun j a b w => H1 j a b (w.elim id (fun y => absurd y (no j)))) (fun w => H0 (fun j a b y => w j a b (Or.inl y))) (t - f) f (by omega) (by omega) (fun j a b => absurd a (by omega))
theorem yq_mateC (post : Int32 → Prop) (c : Nat) (hc : c ≤ 60) (g p : Nat → Int32) (k : Nat) (hk1 : 1 ≤ k) (hk3 : k ≤ 3) (i f t : Nat) {x1 x2 : Int32} (e1 : x1 = nI f) (e2 : x2 = nI t) (hi : i < c) (hft : f ≤ t) (ht : t ≤ c) (hg : g i = nI (k + 3))
    (H1 : ∀ j, f ≤ j → j < t → hs_pr (hs_g c g k) j i → post (nI j)) (H0 : (∀ j, f ≤ j → j < t → ¬ hs_pr (hs_g c g k) j i) → post (-3)) :
    wpY_mate post (nI c, g, p) (nI i) x1 x2 := by
  subst e1 e2
  have ci : (nI i).toNatClampNeg = i := nI_clamp (by omega)
  have no : ∀ j, ¬ hs_pr (hs_g c g k) i j := fun j w => by
    have a := w.2.1
    rw [(hs_g2 hk3 hi).mpr hg] at a
    exact absurd a (by decide)
  have e3 : nI (k + 3) - 3 = nI k := by rw [show (3 : Int32) = nI 3 from rfl, pk_sub (by omega)]; exact congrArg nI (by omega)
  refine ⟨vp_in_nI (by omega) (by omega), nm_r (e' := nI (k + 3)) (by rw [ci]; exact hg) (br_t (nI_lt (a := 3) (by omega) (by omega)) (br_f (nI_ne0 (by omega) (by omega)) ⟨t - f + 1, ?_⟩))⟩
  rw [e3]
  exact yq_m36 post c hc g p k hk3 i f t hi ht (fun j a b w => H1 j a b (w.elim (fun y => absurd y (no j)) id)) (fun w => H0 (fun j a b y => w j a b (Or.inr y))) (t - f) f (by omega) (by omega) (fun j a b => absurd a (by omega))
theorem yq_n3 {j : Nat} (h : j < 2 ^ 31) : ¬ nI j = -3 := fun z => nI_pos h (by rw [z]; decide)
theorem yq_ar (post : Int32 → Prop) (c : Nat) (hc : c ≤ 60) (g p : Nat → Int32) (k : Nat) (hk1 : 1 ≤ k) (hk3 : k ≤ 3) (b : Nat) (hb : b < c)
    (H1 : ∀ i, i < b → (∃ j, b + 1 ≤ j ∧ j < c ∧ hs_pr (hs_g c g k) i j) → (∀ i', i < i' → i' < b → ¬ ∃ j, b + 1 ≤ j ∧ j < c ∧ hs_pr (hs_g c g k) i' j) → post (nI i))
    (H0 : (∀ i, i < b → ¬ ∃ j, b + 1 ≤ j ∧ j < c ∧ hs_pr (hs_g c g k) i j) → post (-3)) :
    ∀ i : Nat, i ≤ b → (∀ i', i ≤ i' → i' < b → ¬ ∃ j, b + 1 ≤ j ∧ j < c ∧ hs_pr (hs_g c g k) i' j) → wY_around_24 post (nI b) (nI k) (nI c) g p (i + 1) (nI i - 1) := by
  intro i
  induction i with
  | zero =>
    intro h1 h2
    exact br_t (by decide) (H0 (fun i a => h2 i (by omega) a))
  | succ i ih =>
    intro h1 h2
    have ci : (nI i).toNatClampNeg = i := nI_clamp (by omega)
    rw [nI_pred]
    refine br_f (nI_pos (by omega)) ⟨vp_in_nI (by omega) (by omega), ?_⟩
    have K : (¬ ∃ j, b + 1 ≤ j ∧ j < c ∧ hs_pr (hs_g c g k) i j) → ∀ y, y = nI i + (-1) → wY_around_24 post (nI b) (nI k) (nI c) g p (i + 1) y := by
      intro n
      refine nm_r (e' := nI i - 1) (Int32.sub_eq_add_neg ..).symm (ih (by omega) (fun i' a1 a2 => ?_))
      by_cases e : i' = i
      · subst e; exact n
      · exact h2 i' (by omega) a2
    by_cases hg : g i = nI k
    · refine br_t (by rw [ci]; exact hg) (yq_mateO _ c hc g p k hk1 hk3 i (b + 1) c (nI_1 b) rfl (by omega) (by omega) (by omega) hg (fun j a1 a2 a3 => br_f (yq_n3 (by omega)) (H1 i (by omega) ⟨j, a1, a2, a3⟩ (fun i' b1 b2 => h2 i' (by omega) b2))) (fun n => br_t rfl (K (fun w => ?_))))
      obtain ⟨j, a1, a2, a3⟩ := w
      exact n j a1 a2 a3
    · refine br_f (by rw [ci]; exact hg) (K (fun w => ?_))
      obtain ⟨j, a1, a2, a3⟩ := w
      exact hg ((hs_g1 (by omega)).mp a3.2.1)
theorem yq_d36 (post : Int32 → Prop) (J : Int32 → Int32 → Prop) (c : Nat) (hc : c ≤ 60) (g p : Nat → Int32) (k : Nat) (hk3 : k ≤ 3) (b i n0 : Nat) (hi : i < c)
    (H1 : (∃ j, b + 1 ≤ j ∧ j < c ∧ hs_pr (hs_g c g k) i j) → J (nI (n0 + 1)) (nI (i + 1))) (H0 : (¬ ∃ j, b + 1 ≤ j ∧ j < c ∧ hs_pr (hs_g c g k) i j) → J (nI n0) (nI (i + 1))) :
    ∀ d j n : Nat, j + d = c → b + 1 ≤ j → ((n = n0 ∧ ¬ ∃ j', b + 1 ≤ j' ∧ j' < j ∧ hs_pr (hs_g c g k) i j') ∨ (n = n0 + 1 ∧ ∃ j', b + 1 ≤ j' ∧ j' < j ∧ hs_pr (hs_g c g k) i j')) →
      wY_depth_36 post J (nI b) (nI k) (nI i) (nI c) g p (d + 1) (nI n) (nI j) := by
  intro d
  induction d with
  | zero =>
    intro j n h1 h2 h3
    rw [show j = c from by omega] at h3
    refine br_t (nI_le (by omega) (by omega)) (nm_r (nI_1 i) ?_)
    rcases h3 with ⟨rfl, h⟩ | ⟨rfl, h⟩
    · exact H0 h
    · exact H1 h
  | succ d ih =>
    intro j n h1 h2 h3
    refine br_f (nI_ge (by omega) (by omega)) (yq_pair _ c hc g p k hk3 i j hi (by omega) (fun z => br_f (by decide) (nm_r (nI_1 n) (nm_r (nI_1 j) (ih (j + 1) (n + 1) (by omega) (by omega) (Or.inr ?_))))) (fun z => br_t rfl (nm_r (nI_1 j) (ih (j + 1) n (by omega) (by omega) ?_))))
    · rcases h3 with ⟨e, h⟩ | ⟨e, j', a1, a2, a3⟩
      · exact ⟨by omega, j, h2, by omega, z⟩
      · exact absurd (hs_prUR _ z a3) (by omega)
    · rcases h3 with ⟨e, h⟩ | ⟨e, j', a1, a2, a3⟩
      · refine Or.inl ⟨e, fun w => ?_⟩
        obtain ⟨j', a1, a2, a3⟩ := w
        by_cases y : j' = j
        · subst y; exact z a3
        · exact h ⟨j', a1, by omega, a3⟩
      · exact Or.inr ⟨e, j', a1, by omega, a3⟩
theorem yq_lo (post : Int32 → Prop) (c : Nat) (hc : c ≤ 60) (g p : Nat → Int32) (k : Nat) (hk1 : 1 ≤ k) (hk3 : k ≤ 3) (a l : Nat) (hal : a + l ≤ c) (H : post (nI (hs_o (hs_g c g k) a (a + l)))) :
    ∀ d i n : Nat, i + d = a + l → a ≤ i → n + hs_o (hs_g c g k) i (a + l) = hs_o (hs_g c g k) a (a + l) → wY_loose_6 post (nI a) (nI l) (nI k) (nI c) g p (d + 1) (nI n) (nI i) := by
  intro d
  induction d with
  | zero =>
    intro i n h1 h2 h3
    rw [show i = a + l from by omega, hs_oo] at h3
    rw [← h3] at H
    refine br_t ?_ H
    rw [nI_add]
    exact nI_le (by omega) (by omega)
  | succ d ih =>
    intro i n h1 h2 h3
    have ci : (nI i).toNatClampNeg = i := nI_clamp (by omega)
    have st := hs_stO (hs_g c g k) (i := i) (b := a + l) (by omega)
    refine br_f ?_ ⟨vp_in_nI (by omega) (by omega), ?_⟩
    · rw [nI_add]; exact nI_ge (by omega) (by omega)
    · by_cases hg : g i = nI k
      · refine br_t (by rw [ci]; exact hg) (yq_mateO _ c hc g p k hk1 hk3 i a (a + l) rfl (nI_add a l) (by omega) (by omega) hal hg (fun j a1 a2 a3 => br_f (yq_n3 (by omega)) (nm_r (nI_1 i) (ih (i + 1) n (by omega) (by omega) ?_))) (fun w => br_t rfl (nm_r (nI_1 n) (nm_r (nI_1 i) (ih (i + 1) (n + 1) (by omega) (by omega) ?_)))))
        · rcases st with ⟨_, x, _⟩ | ⟨_, y⟩
          · exact absurd ⟨j, a3.1, a2, a3⟩ x
          · rw [← y]; exact h3
        · rcases st with ⟨_, _, y⟩ | ⟨x, _⟩
          · omega
          · rcases x with x | ⟨j, b1, b2, b3⟩
            · exact absurd ((hs_g1 (by omega)).mpr hg) x
            · exact absurd b3 (w j (by omega) b2)
      · refine br_f (by rw [ci]; exact hg) (nm_r (nI_1 i) (ih (i + 1) n (by omega) (by omega) ?_))
        rcases st with ⟨x, _⟩ | ⟨_, y⟩
        · exact absurd ((hs_g1 (by omega)).mp x) hg
        · rw [← y]; exact h3
theorem yq_lc (post : Int32 → Prop) (c : Nat) (hc : c ≤ 60) (g p : Nat → Int32) (k : Nat) (hk1 : 1 ≤ k) (hk3 : k ≤ 3) (a l : Nat) (hal : a + l ≤ c) (H : post (nI (hs_c (hs_g c g k) a (a + l)))) :
    ∀ d i : Nat, i + d = a + l → a ≤ i → wY_loose_6 post (nI a) (nI l) (nI (k + 3)) (nI c) g p (d + 1) (nI (hs_c (hs_g c g k) a i)) (nI i) := by
  intro d
  induction d with
  | zero =>
    intro i h1 h2
    rw [show i = a + l from by omega]
    refine br_t ?_ H
    rw [nI_add]
    exact nI_le (by omega) (by omega)
  | succ d ih =>
    intro i h1 h2
    have ci : (nI i).toNatClampNeg = i := nI_clamp (by omega)
    have st := hs_stC (hs_g c g k) (a := a) (j := i) h2
    have h := ih (i + 1) (by omega) (by omega)
    refine br_f ?_ ⟨vp_in_nI (by omega) (by omega), ?_⟩
    · rw [nI_add]; exact nI_ge (by omega) (by omega)
    · by_cases hg : g i = nI (k + 3)
      · refine br_t (by rw [ci]; exact hg) (yq_mateC _ c hc g p k hk1 hk3 i a (a + l) rfl (nI_add a l) (by omega) (by omega) hal hg (fun j a1 a2 a3 => br_f (yq_n3 (by omega)) (nm_r (nI_1 i) ?_)) (fun w => br_t rfl (nm_r (nI_1 _) (nm_r (nI_1 i) ?_))))
        · rcases st with ⟨_, x, _⟩ | ⟨_, y⟩
          · exact absurd ⟨j, a1, a3.1, a3⟩ x
          · rw [y] at h; exact h
        · rcases st with ⟨_, _, y⟩ | ⟨x, _⟩
          · rw [y] at h; exact h
          · rcases x with x | ⟨j, b1, b2, b3⟩
            · exact absurd ((hs_g2 hk3 (by omega)).mpr hg) x
            · exact absurd b3 (w j b1 (by omega))
      · refine br_f (by rw [ci]; exact hg) (nm_r (nI_1 i) ?_)
        rcases st with ⟨x, _⟩ | ⟨_, y⟩
        · exact absurd ((hs_g2 hk3 (by omega)).mp x) hg
        · rw [y] at h; exact h
end
section
/-! the cut at a position, and the count of pairs across it -/
def xc_M (g : Nat → Int32) (k b m : Nat) : Prop := (g b = nI (k + 3) ∧ m = b + 1) ∨ (¬ g b = nI (k + 3) ∧ m = b)
theorem xc_eq {c : Nat} {g : Nat → Int32} {k b m : Nat} (hk3 : k ≤ 3) (hb : b < c) (hm : xc_M g k b m) (i : Nat) :
    (∃ j, b + 1 ≤ j ∧ j < c ∧ hs_pr (hs_g c g k) i j) ↔ (∃ j, m ≤ j ∧ j < c ∧ hs_pr (hs_g c g k) i j) := by
  rcases hm with ⟨h, rfl⟩ | ⟨h, rfl⟩
  · exact Iff.rfl
  · constructor
    · rintro ⟨j, a1, a2, a3⟩
      exact ⟨j, by omega, a2, a3⟩
    · rintro ⟨j, a1, a2, a3⟩
      refine ⟨j, ?_, a2, a3⟩
      by_cases e : j = m
      · subst e; exact absurd ((hs_g2 hk3 hb).mp a3.2.2.1) h
      · omega
theorem xc_lt {c : Nat} {g : Nat → Int32} {k b m : Nat} (hk3 : k ≤ 3) (hb : b < c) (hm : xc_M g k b m) {i j : Nat} (h : hs_pr (hs_g c g k) i j) (hi : i < m) : i < b := by
  rcases hm with ⟨z, rfl⟩ | ⟨z, rfl⟩
  · by_cases e : i = b
    · subst e
      have a := h.2.1
      rw [(hs_g2 hk3 hb).mpr z] at a
      exact absurd a (by decide)
    · omega
  · exact hi
theorem xc_0 {c : Nat} {g : Nat → Int32} {k b m : Nat} (hk3 : k ≤ 3) (hb : b < c) (hm : xc_M g k b m) : hs_o (hs_g c g k) b m = 0 := by
  rcases hm with ⟨z, rfl⟩ | ⟨z, rfl⟩
  · have a := (hs_g2 hk3 hb).mpr z
    rcases hs_1 (hs_g c g k) b with ⟨x, _⟩ | ⟨_, x, _⟩ | ⟨_, x, _⟩
    · rw [a] at x; exact absurd x (by decide)
    · exact x
    · exact absurd a x
  · exact hs_oo _ _
theorem xc_cut (post : Int32 → Prop) (c : Nat) (hc : c ≤ 60) (g o q : Nat → Int32) (k b : Nat) (hb : b < c) (H : ∀ m, xc_M g k b m → post (nI m)) : wpX_cutAt post (nI c, g, o, q) (nI b) (nI k) := by
  have cb : (nI b).toNatClampNeg = b := nI_clamp (by omega)
  have e3 : nI k + 3 = nI (k + 3) := nI_add k 3
  refine ⟨vp_in_nI (by omega) (by omega), ?_⟩
  by_cases h : g b = nI (k + 3)
  · refine br_t (by rw [cb, e3]; exact h) ?_
    rw [nI_1]
    exact H (b + 1) (Or.inl ⟨h, rfl⟩)
  · exact br_f (by rw [cb, e3]; exact h) (H b (Or.inr ⟨h, rfl⟩))
/-- how many pairs with an opening from i on lie across m -/
def xc_n (c : Nat) (g : Nat → Int32) (k m i : Nat) : Nat := if hs_c (hs_g c g k) m c ≤ hs_o (hs_g c g k) i m then hs_c (hs_g c g k) m c else hs_o (hs_g c g k) i m
theorem xc_pa (post : Int32 → Prop) (c : Nat) (hc : c ≤ 60) (g o q : Nat → Int32) (k : Nat) (hk1 : 1 ≤ k) (hk3 : k ≤ 3) (hR : tr_R c g o q) (m : Nat) (hm : m ≤ c) (H : post (nI (xc_n c g k m 0))) : wpX_pairsAcross post (nI c, g, o, q) (nI m) (nI k) := by
  have b1 := hs_ole (hs_g c g k) 0 m
  have b2 := hs_cle (hs_g c g k) m c
  unfold wpX_pairsAcross
  dsimp only
  refine xq_opensIn _ c g o q k hk1 hk3 hR (f := 0) (e := m) (by omega) (by omega) rfl rfl ?_
  refine xq_closesIn _ c g o q k hk1 hk3 hR (f := m) (e := c) hm hc rfl rfl ?_
  exact tr_sm (hs_o (hs_g c g k) 0 m) (hs_c (hs_g c g k) m c) rfl rfl (by omega) (by omega) H
theorem xc_st {c : Nat} {g : Nat → Int32} {k i m : Nat} (him : i < m) (hm : m ≤ c) : ((∃ j, m ≤ j ∧ j < c ∧ hs_pr (hs_g c g k) i j) ∧ xc_n c g k m i = xc_n c g k m (i + 1) + 1) ∨ ((¬ ∃ j, m ≤ j ∧ j < c ∧ hs_pr (hs_g c g k) i j) ∧ xc_n c g k m i = xc_n c g k m (i + 1)) := by
  unfold xc_n
  rcases hs_crs (hs_g c g k) him hm with ⟨x, y, z⟩ | ⟨x, y⟩
  · exact Or.inl ⟨x, by clear x; split <;> split <;> omega⟩
  · exact Or.inr ⟨x, by clear x; split <;> split <;> omega⟩
theorem yq_d25 (post : Int32 → Prop) (c : Nat) (hc : c ≤ 60) (g p : Nat → Int32) (k : Nat) (hk3 : k ≤ 3) (b m : Nat) (hb : b < c) (hM : xc_M g k b m) (hbm : b ≤ m) (hmc : m ≤ c) (H : post (nI (xc_n c g k m 0))) :
    ∀ d i n : Nat, i + d = b → n + xc_n c g k m i = xc_n c g k m 0 → wY_depth_25 post (nI b) (nI k) (nI c) g p (d + 1) (nI n) (nI i) := by
  intro d
  induction d with
  | zero =>
    intro i n h1 h2
    have z : xc_n c g k m i = 0 := by
      rw [show i = b from by omega]
      unfold xc_n
      rw [xc_0 hk3 hb hM]
      split <;> omega
    rw [z, Nat.add_zero] at h2
    rw [← h2] at H
    exact br_t (nI_le (by omega) (by omega)) H
  | succ d ih =>
    intro i n h1 h2
    have st := xc_st (c := c) (g := g) (k := k) (i := i) (m := m) (by omega) hmc
    refine br_f (nI_ge (by omega) (by omega)) (nm_r (nI_1 b) ⟨c - (b + 1) + 1, yq_d36 post _ c hc g p k hk3 b i n (by omega) (fun w => ih (i + 1) (n + 1) (by omega) ?_) (fun w => ih (i + 1) n (by omega) ?_) (c - (b + 1)) (b + 1) n (by omega) (by omega) (Or.inl ⟨rfl, fun w => ?_⟩)⟩)
    · rw [xc_eq hk3 hb hM] at w
      rcases st with ⟨_, y⟩ | ⟨x, _⟩
      · omega
      · exact absurd w x
    · rw [xc_eq hk3 hb hM] at w
      rcases st with ⟨x, _⟩ | ⟨_, y⟩
      · exact absurd x w
      · omega
    · obtain ⟨j, a1, a2, _⟩ := w
      omega
end
section
/-! what is owed -/
/-- the same text on both sides, its codes from 0 to 6; each node of the tree holds its stretch's loose brackets -/
def i_Rel (k : Nat) (u : SX) (v : SY) : Prop := ∃ (c : Nat) (g o q p : Nat → Int32), u = (nI c, g, o, q) ∧ v = (nI c, g, p) ∧ c ≤ 60 ∧ ed_cd g ∧ tr_R c g o q
theorem i_up {k : Nat} {u : SX} {v : SY} (h : i_Rel k u v) : i_Rel (k + 4) u v := h
theorem rl_mk {k c : Nat} {g o q p : Nat → Int32} (hc : c ≤ 60) (hg : ed_cd g) (hR : tr_R c g o q) : i_Rel k (nI c, g, o, q) (nI c, g, p) := ⟨c, g, o, q, p, rfl, rfl, hc, hg, hR⟩
theorem i_vc0 : wpX_init (fun u => wpY_init (fun v => i_Rel 0 u v)) := by
  refine ⟨0, fun _ => 0, fun _ => 0, fun _ => 0, fun _ => 0, rfl, rfl, by omega, fun j => ⟨0, by omega, rfl⟩, fun k h1 h3 node L a _ _ _ _ => ?_⟩
  have z : ∀ j, hs_g 0 (fun _ => 0) k j = 0 := fun j => hs_g0 (Nat.zero_le j)
  rw [hs_oz _ z, hs_cz _ z]
  exact ⟨rfl, rfl⟩
theorem i_vc_insert {k : Nat} {u : SX} {v : SY} (I : i_Rel k u v) (hk : k + 4 ≤ 2048) (v1 : Int32) (v2 : Int32) : wpX_insert (fun r u' => wpY_insert (fun r' v' => r' = r ∧ i_Rel (k + 4) u' v') v v1 v2) u v1 v2 := by
  obtain ⟨c, g, o, q, p, rfl, rfl, hc, hg, hR⟩ := I
  have R : i_Rel (k + 4) (nI c, g, o, q) (nI c, g, p) := rl_mk hc hg hR
  by_cases h : c = 60
  · subst h
    exact br_f (nI_nlt (a := 60) (b := 60) (by decide) (by decide)) (br_t rfl ⟨rfl, R⟩)
  · have hl : nI c < 60 := nI_lt (b := 60) (by omega) (by decide)
    have hn : ¬ nI c = 60 := by
      intro z
      have y : nI c = nI 60 := z
      rw [nI_eq (by omega) (by omega)] at y
      exact h y
    refine br_t hl (br_c (fun h0 => br_f hn (br_t h0 ⟨rfl, R⟩)) (fun h0 => br_c (fun h1 => br_f hn (br_f h0 (br_t h1 ⟨rfl, R⟩))) (fun h1 => br_c (fun h2 => br_f hn (br_f h0 (br_f h1 (br_t h2 ⟨rfl, R⟩)))) (fun h2 => br_c (fun h3 => ?_) (fun h3 => br_f hn (br_f h0 (br_f h1 (br_f h2 (br_f h3 ⟨rfl, R⟩)))))))))
    obtain ⟨a, ha, rfl⟩ := nI_of h0
    obtain ⟨e, he, rfl⟩ := nI_of h2
    have hac : a ≤ c := by rw [nI_ltI (by omega) ha] at h1; omega
    have he6 : e ≤ 6 := by
      have y : nI e ≤ nI 6 := h3
      rw [nI_leI he (by omega)] at y
      exact y
    exact ed_xin _ g o q (by omega) hac (fun o' q' hR' => ed_yin _ g p (by omega) hac he6 rfl rfl ⟨rfl, rl_mk (by omega) (ed_cdU (ed_shC hg a c) a he6 rfl) hR'⟩)
theorem i_vc_erase {k : Nat} {u : SX} {v : SY} (I : i_Rel k u v) (hk : k + 4 ≤ 2048) (v1 : Int32) (v2 : Int32) : wpX_erase (fun r u' => wpY_erase (fun r' v' => r' = r ∧ i_Rel (k + 4) u' v') v v1 v2) u v1 v2 := by
  obtain ⟨c, g, o, q, p, rfl, rfl, hc, hg, hR⟩ := I
  have R : i_Rel (k + 4) (nI c, g, o, q) (nI c, g, p) := rl_mk hc hg hR
  unfold wpX_erase wpY_erase
  dsimp only
  rcases gd_st c hc g o q p v1 v2 with ⟨a, l, hal, rfl, rfl, hX, hY⟩ | ⟨hX, hY⟩
  · refine hX _ (br_f (by decide) (ed_xer _ g o q hc hal (fun o' q' hR' => hY _ (br_f (by decide) (ed_yer _ g p hc hal ?_)))))
    exact ⟨rfl, rl_mk (by omega) (ed_erC hg _ _ _) hR'⟩
  · exact hX _ (br_t rfl (hY _ (br_t rfl ⟨rfl, R⟩)))
theorem i_vc_move {k : Nat} {u : SX} {v : SY} (I : i_Rel k u v) (hk : k + 4 ≤ 2048) (v1 : Int32) (v2 : Int32) (v3 : Int32) : wpX_move (fun r u' => wpY_move (fun r' v' => r' = r ∧ i_Rel (k + 4) u' v') v v1 v2 v3) u v1 v2 v3 := by
  obtain ⟨c, g, o, q, p, rfl, rfl, hc, hg, hR⟩ := I
  have R : i_Rel (k + 4) (nI c, g, o, q) (nI c, g, p) := rl_mk hc hg hR
  unfold wpX_move wpY_move
  dsimp only
  rcases gd_st c hc g o q p v1 v2 with ⟨a, l, hal, rfl, rfl, hX, hY⟩ | ⟨hX, hY⟩
  · refine hX _ (br_f (by decide) (br_c (fun h0 => hY _ (br_f (by decide) (br_t h0 ⟨rfl, R⟩))) (fun h0 => br_c (fun h1 => ?_) (fun h1 => hY _ (br_f (by decide) (br_f h0 (br_f h1 ⟨rfl, R⟩)))))))
    obtain ⟨t, ht, rfl⟩ := nI_of h0
    have htc : t + l ≤ c := by
      have y := h1
      rw [pk_sub (by omega), nI_leI ht (by omega)] at y
      omega
    have Y : ∀ post : Int32 → SY → Prop, post (nI c) (nI c, ed_mv (ed_er g a (c - l) l) (ed_cp g p a 0 l) t l (c - l), ed_cp g p a 0 l) → ∃ n, wY_move_28 post (nI a) (nI l) (nI t) (nI c) n 0 g p :=
      fun post H => ⟨l + 1, ed_y28 post c a l t hc hal htc g hg l 0 p (by omega) (fun j hj => absurd hj (by omega)) H⟩
    refine pk_le t a (fun z => ?_) (fun z => ?_)
    · refine ed_xsw _ (nI c) g o q (a := t) (b := a) (e := a + l) z (by omega) (by omega) rfl (nI_add a l) (tr_new _ c hc _ o q (fun o' q' hR' => hY _ (br_f (by decide) (br_f h0 (br_t h1 (Y _ ?_))))))
      rw [ed_moveL g p hal htc z]
      exact ⟨rfl, rl_mk hc (ed_swC hg _ _ _) hR'⟩
    · refine ed_xsw _ (nI c) g o q (a := a) (b := a + l) (e := t + l) (by omega) (by omega) (by omega) (nI_add a l) (nI_add t l) (tr_new _ c hc _ o q (fun o' q' hR' => hY _ (br_f (by decide) (br_f h0 (br_t h1 (Y _ ?_))))))
      rw [ed_moveR g p hal htc z]
      exact ⟨rfl, rl_mk hc (ed_swC hg _ _ _) hR'⟩
  · exact hX _ (br_t rfl (hY _ (br_t rfl ⟨rfl, R⟩)))
theorem i_vc_mirror {k : Nat} {u : SX} {v : SY} (I : i_Rel k u v) (hk : k + 4 ≤ 2048) (v1 : Int32) (v2 : Int32) : wpX_mirror (fun r u' => wpY_mirror (fun r' v' => r' = r ∧ i_Rel (k + 4) u' v') v v1 v2) u v1 v2 := by
  obtain ⟨c, g, o, q, p, rfl, rfl, hc, hg, hR⟩ := I
  have R : i_Rel (k + 4) (nI c, g, o, q) (nI c, g, p) := rl_mk hc hg hR
  unfold wpX_mirror wpY_mirror
  dsimp only
  rcases gd_st c hc g o q p v1 v2 with ⟨a, l, hal, rfl, rfl, hX, hY⟩ | ⟨hX, hY⟩
  · refine hX _ (br_f (by decide) (ed_xrev _ (nI c) g o q (l := a) (e := a + l) (by omega) (by omega) (nI_add a l) ⟨l + 1, ed_xm _ c a l hc hal o q l a _ rfl (fun o' q' hR' => hY _ (br_f (by decide) ⟨l + 1, ed_y13 _ c a l hc hal g l 0 p (by omega) ?_⟩))⟩))
    rw [ed_mirEq]
    exact ⟨rfl, rl_mk hc (ed_mrC (ed_rvC hg _ _) _ _) hR'⟩
  · exact hX _ (br_t rfl (hY _ (br_t rfl ⟨rfl, R⟩)))
theorem i_vc_codeAt {k : Nat} {u : SX} {v : SY} (I : i_Rel k u v) (hk : k + 4 ≤ 2048) (v1 : Int32) : wpX_codeAt (fun r => wpY_codeAt (fun r' => r' = r ∧ i_Rel (k + 4) u v) v v1) u v1 := by
  obtain ⟨c, g, o, q, p, rfl, rfl, hc, hg, hR⟩ := I
  have R : i_Rel (k + 4) (nI c, g, o, q) (nI c, g, p) := rl_mk hc hg hR
  unfold wpX_codeAt wpY_codeAt
  dsimp only
  rcases gd_po c hc g o q p v1 with ⟨a, ha, rfl, hX, hY⟩ | ⟨hX, hY⟩
  · have w : vp_in (nI a) 60 := vp_in_nI (by omega) (by omega)
    exact hX _ (br_f (by decide) ⟨w, hY _ (br_f (by decide) ⟨w, rfl, R⟩)⟩)
  · exact hX _ (br_t rfl (hY _ (br_t rfl ⟨rfl, R⟩)))
theorem rl_ge {c : Nat} {g : Nat → Int32} {k j : Nat} {x : Int} (h : hs_g c g k j = x) (hx : x ≠ 0) : j < c := by
  by_cases z : j < c
  · exact z
  · rw [hs_g0 (by omega)] at h; exact absurd h.symm hx
theorem i_vc_partner {k : Nat} {u : SX} {v : SY} (I : i_Rel k u v) (hk : k + 4 ≤ 2048) (v1 : Int32) : wpX_partner (fun r => wpY_partner (fun r' => r' = r ∧ i_Rel (k + 4) u v) v v1) u v1 := by
  obtain ⟨c, g, o, q, p, rfl, rfl, hc, hg, hR⟩ := I
  have R : i_Rel (k + 4) (nI c, g, o, q) (nI c, g, p) := rl_mk hc hg hR
  unfold wpX_partner wpY_partner
  dsimp only
  rcases gd_po c hc g o q p v1 with ⟨i, hi, rfl, hX, hY⟩ | ⟨hX, hY⟩
  · have w : vp_in (nI i) 60 := vp_in_nI (by omega) (by omega)
    have ci : (nI i).toNatClampNeg = i := nI_clamp (by omega)
    obtain ⟨e, he, hgi⟩ := hg i
    refine hX _ (br_f (by decide) ⟨w, nm_r (e' := nI e) (by rw [ci]; exact hgi) ?_⟩)
    by_cases e0 : e = 0
    · subst e0
      refine br_t rfl (hY _ (br_f (by decide) ⟨w, nm_r (e' := nI 0) (by rw [ci]; exact hgi) (br_f (by decide) (br_t rfl ⟨rfl, R⟩))⟩))
    · refine br_f (nI_ne0 (by omega) (by omega)) ?_
      by_cases e3 : e ≤ 3
      · have si := (hs_g1 (k := e) hi).mpr hgi
        refine br_f (nI_nlt (a := 3) e3 (by decide)) (xf_closing _ c g o q e (by omega) e3 hR i (by omega) (fun j a1 a2 a3 => ?_) (fun z => ?_))
        · have pr := (hs_prR (hs_g c g e) a1 si).mpr ⟨a2, a3⟩
          have jc : j < c := rl_ge pr.2.2.1 (by decide)
          refine hY _ (br_f (by decide) (yq_mateO _ c hc g p e (by omega) e3 i 0 c rfl rfl hi (by omega) (by omega) hgi (fun j' b1 b2 b3 => ?_) (fun n => absurd pr (n j (by omega) jc))))
          rw [hs_prUR _ b3 pr]
          exact ⟨rfl, R⟩
        · refine hY _ (br_f (by decide) (yq_mateO _ c hc g p e (by omega) e3 i 0 c rfl rfl hi (by omega) (by omega) hgi (fun j' b1 b2 b3 => ?_) (fun n => ⟨rfl, R⟩)))
          exfalso
          have x := (hs_prR (hs_g c g e) b3.1 si).mp b3
          have y := hs_cmono (hs_g c g e) (a := i + 1) (m := j' + 1) (b := 64) (by have := b3.1; omega) (by omega)
          omega
      · obtain ⟨d, rfl⟩ : ∃ d, e = d + 3 := ⟨e - 3, by omega⟩
        have d1 : 1 ≤ d := by omega
        have d3 : d ≤ 3 := by omega
        have si := (hs_g2 (k := d) d3 hi).mpr hgi
        have ed : nI (d + 3) - 3 = nI d := by rw [show (3 : Int32) = nI 3 from rfl, pk_sub (by omega)]; exact congrArg nI (by omega)
        refine br_t (nI_lt (a := 3) (by omega) (by omega)) (xf_opening _ c g o q d d1 d3 hR i rfl ed (by omega) (fun j a1 a2 a3 => ?_) (fun z => ?_))
        · have pr := (hs_prL (hs_g c g d) a1 si).mpr ⟨a2, a3⟩
          refine hY _ (br_f (by decide) (yq_mateC _ c hc g p d d1 d3 i 0 c rfl rfl hi (by omega) (by omega) hgi (fun j' b1 b2 b3 => ?_) (fun n => absurd pr (n j (by omega) (by omega)))))
          have x := (hs_prL (hs_g c g d) b3.1 si).mp b3
          have bl := b3.1
          have ej : j' = j := by
            by_cases l1 : j' < j
            · have y := hs_omono (hs_g c g d) (a := j' + 1) (m := j) (b := i) (by omega) (by omega)
              omega
            · by_cases l2 : j < j'
              · have y := hs_omono (hs_g c g d) (a := j + 1) (m := j') (b := i) (by omega) (by omega)
                omega
              · omega
          rw [ej]
          exact ⟨rfl, R⟩
        · refine hY _ (br_f (by decide) (yq_mateC _ c hc g p d d1 d3 i 0 c rfl rfl hi (by omega) (by omega) hgi (fun j' b1 b2 b3 => ?_) (fun n => ⟨rfl, R⟩)))
          exfalso
          have x := (hs_prL (hs_g c g d) b3.1 si).mp b3
          have y := hs_omono (hs_g c g d) (a := 0) (m := j') (b := i) (by omega) (by have := b3.1; omega)
          omega
  · exact hX _ (br_t rfl (hY _ (br_t rfl ⟨rfl, R⟩)))
theorem i_vc_around {k : Nat} {u : SX} {v : SY} (I : i_Rel k u v) (hk : k + 4 ≤ 2048) (v1 : Int32) (v2 : Int32) : wpX_around (fun r => wpY_around (fun r' => r' = r ∧ i_Rel (k + 4) u v) v v1 v2) u v1 v2 := by
  obtain ⟨c, g, o, q, p, rfl, rfl, hc, hg, hR⟩ := I
  have R : i_Rel (k + 4) (nI c, g, o, q) (nI c, g, p) := rl_mk hc hg hR
  unfold wpX_around wpY_around
  dsimp only
  rcases gd_po c hc g o q p v1 with ⟨b, hb, rfl, hX, hY⟩ | ⟨hX, hY⟩
  · rcases gd_k v2 with ⟨e, e1, e3, rfl, k1, k2, k3⟩ | k1 | ⟨k1, k2, k3⟩
    · refine hX _ (br_f (by decide) (br_f k1 (br_f k2 (br_f (by decide) (xc_cut _ c hc g o q e b hb (fun m hM => ?_))))))
      have hmb : b ≤ m ∧ m ≤ b + 1 := by rcases hM with ⟨_, y⟩ | ⟨_, y⟩ <;> omega
      have Y : ∀ post : Int32 → Prop, (∀ i, i < b → (∃ j, b + 1 ≤ j ∧ j < c ∧ hs_pr (hs_g c g e) i j) → (∀ i', i < i' → i' < b → ¬ ∃ j, b + 1 ≤ j ∧ j < c ∧ hs_pr (hs_g c g e) i' j) → post (nI i)) →
          ((∀ i, i < b → ¬ ∃ j, b + 1 ≤ j ∧ j < c ∧ hs_pr (hs_g c g e) i j) → post (-3)) → ∀ y, y = nI b - 1 → ∃ n, wY_around_24 post (nI b) (nI e) (nI c) g p n y :=
        fun post A B => nm_e ⟨b + 1, yq_ar post c hc g p e e1 e3 b hb A B b (by omega) (fun i' x y => absurd x (by omega))⟩
      have b1 := hs_ole (hs_g c g e) 0 m
      have b2 := hs_cle (hs_g c g e) m c
      refine xc_pa _ c hc g o q e e1 e3 hR m (by omega) (pk_eq (xc_n c g e m 0) 0 (fun z => ?_) (fun z => ?_) rfl rfl (by unfold xc_n; split <;> omega) (by omega))
      · have no : ∀ i, i < b → ¬ ∃ j, b + 1 ≤ j ∧ j < c ∧ hs_pr (hs_g c g e) i j := by
          intro i hi x
          rw [xc_eq e3 hb hM] at x
          have mo := hs_omono (hs_g c g e) (a := 0) (m := i) (b := m) (by omega) (by omega)
          rcases hs_crs (hs_g c g e) (i := i) (m := m) (e := c) (by omega) (by omega) with ⟨_, y1, y2⟩ | ⟨y, _⟩
          · unfold xc_n at z
            clear x
            split at z <;> omega
          · exact y x
        exact hY _ (br_f (by decide) (br_f k1 (br_t k3 (Y _ (fun i hi x _ => absurd x (no i hi)) (fun _ => ⟨rfl, R⟩)))))
      · have z1 : 1 ≤ hs_o (hs_g c g e) 0 m ∧ 1 ≤ hs_c (hs_g c g e) m c := by
          unfold xc_n at z
          split at z <;> omega
        refine xf_opening _ c g o q e e1 e3 hR m rfl rfl (by omega) (fun j a1 a2 a3 => ?_) (fun n => by omega)
        have cr : ∃ j', m ≤ j' ∧ j' < c ∧ hs_pr (hs_g c g e) j j' := by
          rcases hs_crs (hs_g c g e) (i := j) (m := m) (e := c) a1 (by omega) with ⟨y, _⟩ | ⟨_, y⟩
          · exact y
          · exfalso; omega
        have jb : j < b := by
          obtain ⟨j', _, _, y⟩ := cr
          exact xc_lt e3 hb hM y a1
        have cr2 := (xc_eq e3 hb hM j).mpr cr
        refine hY _ (br_f (by decide) (br_f k1 (br_t k3 (Y _ (fun i hi x n => ?_) (fun n => absurd cr2 (n j jb))))))
        have ei : i = j := by
          by_cases l1 : i < j
          · exact absurd cr2 (n j l1 jb)
          · by_cases l2 : j < i
            · rw [xc_eq e3 hb hM] at x
              have mo := hs_omono (hs_g c g e) (a := j + 1) (m := i) (b := m) (by omega) (by omega)
              rcases hs_crs (hs_g c g e) (i := i) (m := m) (e := c) (by omega) (by omega) with ⟨_, y1, y2⟩ | ⟨y, _⟩
              · exfalso; clear x cr cr2 n; omega
              · exact absurd x y
            · clear x cr cr2 n; omega
        rw [ei]
        exact ⟨rfl, R⟩
    · exact hX _ (br_f (by decide) (br_t k1 (br_t rfl (hY _ (br_f (by decide) (br_t k1 ⟨rfl, R⟩))))))
    · exact hX _ (br_f (by decide) (br_f k1 (br_t k2 (br_t rfl (hY _ (br_f (by decide) (br_f k1 (br_f k3 ⟨rfl, R⟩))))))))
  · exact hX _ (br_t rfl (hY _ (br_t rfl ⟨rfl, R⟩)))
theorem i_vc_depth {k : Nat} {u : SX} {v : SY} (I : i_Rel k u v) (hk : k + 4 ≤ 2048) (v1 : Int32) (v2 : Int32) : wpX_depth (fun r => wpY_depth (fun r' => r' = r ∧ i_Rel (k + 4) u v) v v1 v2) u v1 v2 := by
  obtain ⟨c, g, o, q, p, rfl, rfl, hc, hg, hR⟩ := I
  have R : i_Rel (k + 4) (nI c, g, o, q) (nI c, g, p) := rl_mk hc hg hR
  unfold wpX_depth wpY_depth
  dsimp only
  rcases gd_po c hc g o q p v1 with ⟨b, hb, rfl, hX, hY⟩ | ⟨hX, hY⟩
  · rcases gd_k v2 with ⟨e, e1, e3, rfl, k1, k2, k3⟩ | k1 | ⟨k1, k2, k3⟩
    · refine hX _ (br_f (by decide) (br_f k1 (br_f k2 (br_f (by decide) (xc_cut _ c hc g o q e b hb (fun m hM => ?_))))))
      have hmb : b ≤ m ∧ m ≤ b + 1 := by rcases hM with ⟨_, y⟩ | ⟨_, y⟩ <;> omega
      refine xc_pa _ c hc g o q e e1 e3 hR m (by omega) (hY _ (br_f (by decide) (br_f k1 (br_t k3 ⟨b + 1, yq_d25 _ c hc g p e e3 b m hb hM (by omega) (by omega) ⟨rfl, R⟩ b 0 0 (by omega) (by omega)⟩))))
    · exact hX _ (br_f (by decide) (br_t k1 (br_t rfl (hY _ (br_f (by decide) (br_t k1 ⟨rfl, R⟩))))))
    · exact hX _ (br_f (by decide) (br_f k1 (br_t k2 (br_t rfl (hY _ (br_f (by decide) (br_f k1 (br_f k3 ⟨rfl, R⟩))))))))
  · exact hX _ (br_t rfl (hY _ (br_t rfl ⟨rfl, R⟩)))
theorem i_vc_looseOpen {k : Nat} {u : SX} {v : SY} (I : i_Rel k u v) (hk : k + 4 ≤ 2048) (v1 : Int32) (v2 : Int32) (v3 : Int32) : wpX_looseOpen (fun r => wpY_looseOpen (fun r' => r' = r ∧ i_Rel (k + 4) u v) v v1 v2 v3) u v1 v2 v3 := by
  obtain ⟨c, g, o, q, p, rfl, rfl, hc, hg, hR⟩ := I
  have R : i_Rel (k + 4) (nI c, g, o, q) (nI c, g, p) := rl_mk hc hg hR
  unfold wpX_looseOpen wpY_looseOpen
  dsimp only
  rcases gd_st c hc g o q p v1 v2 with ⟨a, l, hal, rfl, rfl, hX, hY⟩ | ⟨hX, hY⟩
  · rcases gd_k v3 with ⟨e, e1, e3, rfl, k1, k2, k3⟩ | k1 | ⟨k1, k2, k3⟩
    · exact hX _ (br_f (by decide) (br_f k1 (br_f k2 (br_f (by decide) (xq_opensIn _ c g o q e e1 e3 hR (f := a) (e := a + l) (by omega) (by omega) rfl (nI_add a l) (hY _ (br_f (by decide) (br_f k1 (br_t k3 ⟨l + 1, yq_lo _ c hc g p e e1 e3 a l hal ⟨rfl, R⟩ l a 0 rfl (by omega) (by omega)⟩)))))))))
    · exact hX _ (br_f (by decide) (br_t k1 (br_t rfl (hY _ (br_f (by decide) (br_t k1 ⟨rfl, R⟩))))))
    · exact hX _ (br_f (by decide) (br_f k1 (br_t k2 (br_t rfl (hY _ (br_f (by decide) (br_f k1 (br_f k3 ⟨rfl, R⟩))))))))
  · exact hX _ (br_t rfl (hY _ (br_t rfl ⟨rfl, R⟩)))
theorem i_vc_looseClose {k : Nat} {u : SX} {v : SY} (I : i_Rel k u v) (hk : k + 4 ≤ 2048) (v1 : Int32) (v2 : Int32) (v3 : Int32) : wpX_looseClose (fun r => wpY_looseClose (fun r' => r' = r ∧ i_Rel (k + 4) u v) v v1 v2 v3) u v1 v2 v3 := by
  obtain ⟨c, g, o, q, p, rfl, rfl, hc, hg, hR⟩ := I
  have R : i_Rel (k + 4) (nI c, g, o, q) (nI c, g, p) := rl_mk hc hg hR
  unfold wpX_looseClose wpY_looseClose
  dsimp only
  rcases gd_st c hc g o q p v1 v2 with ⟨a, l, hal, rfl, rfl, hX, hY⟩ | ⟨hX, hY⟩
  · rcases gd_k v3 with ⟨e, e1, e3, rfl, k1, k2, k3⟩ | k1 | ⟨k1, k2, k3⟩
    · refine hX _ (br_f (by decide) (br_f k1 (br_f k2 (br_f (by decide) (xq_closesIn _ c g o q e e1 e3 hR (f := a) (e := a + l) (by omega) (by omega) rfl (nI_add a l) (hY _ (br_f (by decide) (br_f k1 (br_t k3 ⟨l + 1, ?_⟩)))))))))
      have h := fun post H => yq_lc post c hc g p e e1 e3 a l hal H l a rfl (by omega)
      rw [hs_cc] at h
      rw [show nI e + 3 = nI (e + 3) from nI_add e 3]
      refine h _ ?_
      exact ⟨rfl, R⟩
    · exact hX _ (br_f (by decide) (br_t k1 (br_t rfl (hY _ (br_f (by decide) (br_t k1 ⟨rfl, R⟩))))))
    · exact hX _ (br_f (by decide) (br_f k1 (br_t k2 (br_t rfl (hY _ (br_f (by decide) (br_f k1 (br_f k3 ⟨rfl, R⟩))))))))
  · exact hX _ (br_t rfl (hY _ (br_t rfl ⟨rfl, R⟩)))
end
