/-! a stretch of signs (1 opens, -1 closes) read alone: how many openings and closings stay loose -/
def hs_p (s : Nat → Int) (a : Nat) : Nat → Nat × Nat
  | 0 => (0, 0)
  | n + 1 =>
    if s (a + n) = 1 then ((hs_p s a n).1 + 1, (hs_p s a n).2)
    else if s (a + n) = -1 then ((hs_p s a n).1 - 1, if (hs_p s a n).1 = 0 then (hs_p s a n).2 + 1 else (hs_p s a n).2)
    else hs_p s a n
theorem hs_s1 {s : Nat → Int} {a n : Nat} (h : s (a + n) = 1) : hs_p s a (n + 1) = ((hs_p s a n).1 + 1, (hs_p s a n).2) := by
  rw [hs_p, if_pos h]
theorem hs_s2 {s : Nat → Int} {a n : Nat} (h : s (a + n) = -1) : hs_p s a (n + 1) = ((hs_p s a n).1 - 1, if (hs_p s a n).1 = 0 then (hs_p s a n).2 + 1 else (hs_p s a n).2) := by
  rw [hs_p, if_neg (by rw [h]; decide), if_pos h]
theorem hs_s3 {s : Nat → Int} {a n : Nat} (h : ¬ s (a + n) = 1) (h2 : ¬ s (a + n) = -1) : hs_p s a (n + 1) = hs_p s a n := by
  rw [hs_p, if_neg h, if_neg h2]
theorem hs_pm (s : Nat → Int) (a m n : Nat) : (hs_p s a (m + n)).1 = (hs_p s (a + m) n).1 + ((hs_p s a m).1 - (hs_p s (a + m) n).2) ∧ (hs_p s a (m + n)).2 = (hs_p s a m).2 + ((hs_p s (a + m) n).2 - (hs_p s a m).1) := by
  induction n with
  | zero => simp [hs_p]
  | succ n ih =>
    obtain ⟨i1, i2⟩ := ih
    have e : s (a + (m + n)) = s (a + m + n) := by rw [Nat.add_assoc]
    by_cases h1 : s (a + m + n) = 1
    · rw [show m + (n + 1) = (m + n) + 1 from rfl, hs_s1 (e.trans h1), hs_s1 h1]
      dsimp only
      omega
    · by_cases h2 : s (a + m + n) = -1
      · rw [show m + (n + 1) = (m + n) + 1 from rfl, hs_s2 (e.trans h2), hs_s2 h2]
        dsimp only
        constructor
        · split <;> omega
        · split <;> split <;> omega
      · rw [show m + (n + 1) = (m + n) + 1 from rfl, hs_s3 (by rw [e]; exact h1) (by rw [e]; exact h2), hs_s3 h1 h2]
        exact ⟨i1, i2⟩
theorem hs_ple (s : Nat → Int) (a n : Nat) : (hs_p s a n).1 ≤ n ∧ (hs_p s a n).2 ≤ n := by
  induction n with
  | zero => simp [hs_p]
  | succ n ih =>
    obtain ⟨i1, i2⟩ := ih
    by_cases h1 : s (a + n) = 1
    · rw [hs_s1 h1]; dsimp only; omega
    · by_cases h2 : s (a + n) = -1
      · rw [hs_s2 h2]; dsimp only
        constructor
        · omega
        · split <;> omega
      · rw [hs_s3 h1 h2]; omega
theorem hs_pz (s : Nat → Int) (h : ∀ j, s j = 0) (a n : Nat) : hs_p s a n = (0, 0) := by
  induction n with
  | zero => rfl
  | succ n ih => rw [hs_s3 (by rw [h]; decide) (by rw [h]; decide), ih]
def hs_o (s : Nat → Int) (a b : Nat) : Nat := (hs_p s a (b - a)).1
def hs_c (s : Nat → Int) (a b : Nat) : Nat := (hs_p s a (b - a)).2
theorem hs_om (s : Nat → Int) {a m b : Nat} (h1 : a ≤ m) (h2 : m ≤ b) : hs_o s a b = hs_o s m b + (hs_o s a m - hs_c s m b) := by
  have h := (hs_pm s a (m - a) (b - m)).1
  rw [show m - a + (b - m) = b - a from by omega, show a + (m - a) = m from by omega] at h
  exact h
theorem hs_cm (s : Nat → Int) {a m b : Nat} (h1 : a ≤ m) (h2 : m ≤ b) : hs_c s a b = hs_c s a m + (hs_c s m b - hs_o s a m) := by
  have h := (hs_pm s a (m - a) (b - m)).2
  rw [show m - a + (b - m) = b - a from by omega, show a + (m - a) = m from by omega] at h
  exact h
theorem hs_ole (s : Nat → Int) (a b : Nat) : hs_o s a b ≤ b - a := (hs_ple s a (b - a)).1
theorem hs_cle (s : Nat → Int) (a b : Nat) : hs_c s a b ≤ b - a := (hs_ple s a (b - a)).2
theorem hs_oo (s : Nat → Int) (a : Nat) : hs_o s a a = 0 := by have := hs_ole s a a; omega
theorem hs_cc (s : Nat → Int) (a : Nat) : hs_c s a a = 0 := by have := hs_cle s a a; omega
theorem hs_oz (s : Nat → Int) (h : ∀ j, s j = 0) (a b : Nat) : hs_o s a b = 0 := by unfold hs_o; rw [hs_pz s h]
theorem hs_cz (s : Nat → Int) (h : ∀ j, s j = 0) (a b : Nat) : hs_c s a b = 0 := by unfold hs_c; rw [hs_pz s h]
/-- one sign alone -/
theorem hs_1 (s : Nat → Int) (j : Nat) : (s j = 1 ∧ hs_o s j (j + 1) = 1 ∧ hs_c s j (j + 1) = 0) ∨ (s j = -1 ∧ hs_o s j (j + 1) = 0 ∧ hs_c s j (j + 1) = 1) ∨ (s j ≠ 1 ∧ s j ≠ -1 ∧ hs_o s j (j + 1) = 0 ∧ hs_c s j (j + 1) = 0) := by
  unfold hs_o hs_c
  rw [show j + 1 - j = 0 + 1 from by omega]
  by_cases h1 : s j = 1
  · exact Or.inl ⟨h1, by rw [hs_s1 (a := j) (n := 0) h1]; exact ⟨rfl, rfl⟩⟩
  · by_cases h2 : s j = -1
    · exact Or.inr (Or.inl ⟨h2, by rw [hs_s2 (a := j) (n := 0) h2]; exact ⟨rfl, rfl⟩⟩)
    · exact Or.inr (Or.inr ⟨h1, h2, by rw [hs_s3 (a := j) (n := 0) h1 h2]; exact ⟨rfl, rfl⟩⟩)
theorem hs_omono (s : Nat → Int) {a m b : Nat} (h1 : a ≤ m) (h2 : m ≤ b) : hs_o s m b ≤ hs_o s a b := by
  rw [hs_om s h1 h2]; omega
theorem hs_cmono (s : Nat → Int) {a m b : Nat} (h1 : a ≤ m) (h2 : m ≤ b) : hs_c s a m ≤ hs_c s a b := by
  rw [hs_cm s h1 h2]; omega
/-- a pair: an opening, a closing, and nothing loose in between -/
def hs_pr (s : Nat → Int) (i j : Nat) : Prop := i < j ∧ s i = 1 ∧ s j = -1 ∧ hs_o s (i + 1) j = 0 ∧ hs_c s (i + 1) j = 0
theorem hs_prR (s : Nat → Int) {i j : Nat} (hij : i < j) (hi : s i = 1) : hs_pr s i j ↔ (hs_c s (i + 1) j = 0 ∧ 1 ≤ hs_c s (i + 1) (j + 1)) := by
  have m := hs_cm s (a := i + 1) (m := j) (b := j + 1) (by omega) (by omega)
  have u := hs_1 s j
  unfold hs_pr
  constructor
  · rintro ⟨_, _, a, b, c⟩
    refine ⟨c, ?_⟩
    rcases u with ⟨x, _⟩ | ⟨x, y, z⟩ | ⟨_, x, _⟩
    · rw [x] at a; exact absurd a (by decide)
    · omega
    · exact absurd a x
  · rintro ⟨a, b⟩
    rcases u with ⟨x, y, z⟩ | ⟨x, y, z⟩ | ⟨_, x, y, z⟩
    · omega
    · exact ⟨hij, hi, x, by omega, a⟩
    · omega
theorem hs_prL (s : Nat → Int) {i j : Nat} (hij : i < j) (hj : s j = -1) : hs_pr s i j ↔ (hs_o s (i + 1) j = 0 ∧ 1 ≤ hs_o s i j) := by
  have m := hs_om s (a := i) (m := i + 1) (b := j) (by omega) (by omega)
  have u := hs_1 s i
  unfold hs_pr
  constructor
  · rintro ⟨_, a, _, b, c⟩
    refine ⟨b, ?_⟩
    rcases u with ⟨x, y, z⟩ | ⟨x, _⟩ | ⟨x, _⟩
    · omega
    · rw [x] at a; exact absurd a (by decide)
    · exact absurd a x
  · rintro ⟨a, b⟩
    rcases u with ⟨x, y, z⟩ | ⟨x, y, z⟩ | ⟨_, x, y, z⟩
    · exact ⟨hij, x, hj, a, by omega⟩
    · omega
    · omega
theorem hs_prUR (s : Nat → Int) {i j k : Nat} (h : hs_pr s i j) (h2 : hs_pr s i k) : j = k := by
  have a := (hs_prR s h.1 h.2.1).mp h
  have b := (hs_prR s h2.1 h2.2.1).mp h2
  have hj := h.1
  have hk := h2.1
  by_cases e : j < k
  · have := hs_cmono s (a := i + 1) (m := j + 1) (b := k) (by omega) (by omega)
    omega
  · by_cases e2 : k < j
    · have := hs_cmono s (a := i + 1) (m := k + 1) (b := j) (by omega) (by omega)
      omega
    · omega
theorem hs_fr (f : Nat → Nat) (m b : Nat) (h : m ≤ b) (h0 : f m = 0) (h1 : 1 ≤ f b) : ∃ j, m ≤ j ∧ j < b ∧ f j = 0 ∧ 1 ≤ f (j + 1) := by
  obtain ⟨d, rfl⟩ : ∃ d, b = m + d := ⟨b - m, by omega⟩
  clear h
  induction d with
  | zero => rw [Nat.add_zero, h0] at h1; exact absurd h1 (by decide)
  | succ d ih =>
    by_cases z : 1 ≤ f (m + d)
    · obtain ⟨j, a, b, c, e⟩ := ih z
      exact ⟨j, a, by omega, c, e⟩
    · exact ⟨m + d, by omega, by omega, by omega, h1⟩
theorem hs_fl (f : Nat → Nat) (m b : Nat) (h : m ≤ b) (h0 : f b = 0) (h1 : 1 ≤ f m) : ∃ j, m ≤ j ∧ j < b ∧ 1 ≤ f j ∧ f (j + 1) = 0 := by
  obtain ⟨d, rfl⟩ : ∃ d, b = m + d := ⟨b - m, by omega⟩
  clear h
  induction d with
  | zero => rw [Nat.add_zero] at h0; rw [h0] at h1; exact absurd h1 (by decide)
  | succ d ih =>
    by_cases z : f (m + d) = 0
    · obtain ⟨j, a, b, c, e⟩ := ih z
      exact ⟨j, a, by omega, c, e⟩
    · exact ⟨m + d, by omega, by omega, by omega, h0⟩
/-- an opening at i has its partner in [m, b) -/
theorem hs_exR (s : Nat → Int) {i m b : Nat} (him : i < m) (hmb : m ≤ b) : (∃ j, m ≤ j ∧ j < b ∧ hs_pr s i j) ↔ (s i = 1 ∧ hs_c s (i + 1) m = 0 ∧ 1 ≤ hs_c s (i + 1) b) := by
  constructor
  · rintro ⟨j, a, c, h⟩
    have e := (hs_prR s h.1 h.2.1).mp h
    have x := hs_cmono s (a := i + 1) (m := m) (b := j) (by omega) (by omega)
    have y := hs_cmono s (a := i + 1) (m := j + 1) (b := b) (by omega) (by omega)
    exact ⟨h.2.1, by omega, by omega⟩
  · rintro ⟨a, c, e⟩
    obtain ⟨j, x, y, z, w⟩ := hs_fr (fun j => hs_c s (i + 1) j) m b hmb c e
    exact ⟨j, x, y, (hs_prR s (by omega) a).mpr ⟨z, w⟩⟩
/-- a closing at j has its partner in [a, j) -/
theorem hs_exL (s : Nat → Int) {a j : Nat} (haj : a ≤ j) : (∃ i, a ≤ i ∧ i < j ∧ hs_pr s i j) ↔ (s j = -1 ∧ 1 ≤ hs_o s a j) := by
  constructor
  · rintro ⟨i, x, y, h⟩
    have e := (hs_prL s h.1 h.2.2.1).mp h
    have z := hs_omono s (a := a) (m := i) (b := j) (by omega) (by omega)
    exact ⟨h.2.2.1, by omega⟩
  · rintro ⟨x, y⟩
    obtain ⟨i, p, q, z, w⟩ := hs_fl (fun i => hs_o s i j) a j haj (hs_oo s j) y
    exact ⟨i, p, q, (hs_prL s (by omega) x).mpr ⟨w, z⟩⟩
/-- how many openings loose in [i, b) the sign at i adds -/
theorem hs_stO (s : Nat → Int) {i b : Nat} (h : i < b) : (s i = 1 ∧ (¬ ∃ j, i + 1 ≤ j ∧ j < b ∧ hs_pr s i j) ∧ hs_o s i b = hs_o s (i + 1) b + 1) ∨ ((¬ s i = 1 ∨ ∃ j, i + 1 ≤ j ∧ j < b ∧ hs_pr s i j) ∧ hs_o s i b = hs_o s (i + 1) b) := by
  have m := hs_om s (a := i) (m := i + 1) (b := b) (by omega) (by omega)
  have x := hs_exR s (i := i) (m := i + 1) (b := b) (by omega) (by omega)
  have z := hs_cc s (i + 1)
  rcases hs_1 s i with ⟨p, q, r⟩ | ⟨p, q, r⟩ | ⟨p, _, q, r⟩
  · by_cases c : 1 ≤ hs_c s (i + 1) b
    · exact Or.inr ⟨Or.inr (x.mpr ⟨p, z, c⟩), by clear x; omega⟩
    · exact Or.inl ⟨p, fun y => c (x.mp y).2.2, by clear x; omega⟩
  · exact Or.inr ⟨Or.inl (by rw [p]; decide), by clear x; omega⟩
  · exact Or.inr ⟨Or.inl p, by clear x; omega⟩
/-- how many closings loose in [a, j] the sign at j adds -/
theorem hs_stC (s : Nat → Int) {a j : Nat} (h : a ≤ j) : (s j = -1 ∧ (¬ ∃ i, a ≤ i ∧ i < j ∧ hs_pr s i j) ∧ hs_c s a (j + 1) = hs_c s a j + 1) ∨ ((¬ s j = -1 ∨ ∃ i, a ≤ i ∧ i < j ∧ hs_pr s i j) ∧ hs_c s a (j + 1) = hs_c s a j) := by
  have m := hs_cm s (a := a) (m := j) (b := j + 1) (by omega) (by omega)
  have x := hs_exL s (a := a) (j := j) h
  rcases hs_1 s j with ⟨p, q, r⟩ | ⟨p, q, r⟩ | ⟨_, p, q, r⟩
  · exact Or.inr ⟨Or.inl (by rw [p]; decide), by clear x; omega⟩
  · by_cases c : 1 ≤ hs_o s a j
    · exact Or.inr ⟨Or.inr (x.mpr ⟨p, c⟩), by clear x; omega⟩
    · exact Or.inl ⟨p, fun y => c (x.mp y).2, by clear x; omega⟩
  · exact Or.inr ⟨Or.inl p, by clear x; omega⟩
/-- an opening at i left of the cut m has its partner right of it, within e -/
theorem hs_crs (s : Nat → Int) {i m e : Nat} (him : i < m) (hme : m ≤ e) : ((∃ j, m ≤ j ∧ j < e ∧ hs_pr s i j) ∧ hs_o s i m = hs_o s (i + 1) m + 1 ∧ hs_o s (i + 1) m < hs_c s m e) ∨ ((¬ ∃ j, m ≤ j ∧ j < e ∧ hs_pr s i j) ∧ (hs_o s i m = hs_o s (i + 1) m ∨ (hs_o s i m = hs_o s (i + 1) m + 1 ∧ hs_c s m e ≤ hs_o s (i + 1) m))) := by
  have x := hs_exR s (i := i) (m := m) (b := e) him hme
  have y := hs_om s (a := i) (m := i + 1) (b := m) (by omega) (by omega)
  have z := hs_cm s (a := i + 1) (m := m) (b := e) (by omega) hme
  by_cases c : ∃ j, m ≤ j ∧ j < e ∧ hs_pr s i j
  · obtain ⟨p, q, r⟩ := x.mp c
    refine Or.inl ⟨c, ?_⟩
    rcases hs_1 s i with ⟨_, b, d⟩ | ⟨a, b, d⟩ | ⟨a, _, b, d⟩
    · omega
    · rw [a] at p; exact absurd p (by decide)
    · exact absurd p a
  · refine Or.inr ⟨c, ?_⟩
    rcases hs_1 s i with ⟨a, b, d⟩ | ⟨a, b, d⟩ | ⟨a, _, b, d⟩
    · by_cases f : hs_c s (i + 1) m = 0
      · have g : ¬ 1 ≤ hs_c s (i + 1) e := fun g => c (x.mpr ⟨a, f, g⟩)
        omega
      · omega
    · omega
    · omega
/-- the sign of the code at j for kind k, in a text of c codes -/
def hs_g (c : Nat) (g : Nat → Int32) (k j : Nat) : Int := if j < c then (if g j = nI k then 1 else if g j = nI (k + 3) then -1 else 0) else 0
theorem hs_kne {k : Nat} (hk : k ≤ 3) : ¬ nI (k + 3) = nI k := by rw [nI_eq (by omega) (by omega)]; omega
theorem hs_g1 {c : Nat} {g : Nat → Int32} {k j : Nat} (hj : j < c) : hs_g c g k j = 1 ↔ g j = nI k := by
  unfold hs_g
  rw [if_pos hj]
  by_cases h : g j = nI k
  · rw [if_pos h]; simp [h]
  · rw [if_neg h]
    constructor
    · intro z; split at z <;> exact absurd z (by decide)
    · intro z; exact absurd z h
theorem hs_g2 {c : Nat} {g : Nat → Int32} {k j : Nat} (hk : k ≤ 3) (hj : j < c) : hs_g c g k j = -1 ↔ g j = nI (k + 3) := by
  unfold hs_g
  rw [if_pos hj]
  by_cases h : g j = nI k
  · rw [if_pos h]
    constructor
    · intro z; exact absurd z (by decide)
    · intro z; exact absurd (z.symm.trans h) (hs_kne hk)
  · rw [if_neg h]
    by_cases h2 : g j = nI (k + 3)
    · rw [if_pos h2]; simp [h2]
    · rw [if_neg h2]
      constructor
      · intro z; exact absurd z (by decide)
      · intro z; exact absurd z h2
theorem hs_g0 {c : Nat} {g : Nat → Int32} {k j : Nat} (hj : c ≤ j) : hs_g c g k j = 0 := by
  unfold hs_g
  rw [if_neg (by omega)]
