/-- the fold of every loop here: places 0 .. k-1, those with q alone -/
def cd_fo (q : Nat → Bool) (g : Int32 → Nat → Int32) (z : Int32) : Nat → Int32
  | 0 => z
  | i + 1 => if q i = true then g (cd_fo q g z i) i else cd_fo q g z i
theorem cd_foT {q : Nat → Bool} {g : Int32 → Nat → Int32} {z : Int32} {i : Nat} (h : q i = true) : cd_fo q g z (i + 1) = g (cd_fo q g z i) i := if_pos h
theorem cd_foF {q : Nat → Bool} {g : Int32 → Nat → Int32} {z : Int32} {i : Nat} (h : ¬ q i = true) : cd_fo q g z (i + 1) = cd_fo q g z i := if_neg h
theorem cd_fo_congr {q q' : Nat → Bool} {g : Int32 → Nat → Int32} {z : Int32} : ∀ k, (∀ i, i < k → q i = q' i) → cd_fo q g z k = cd_fo q' g z k := by
  intro k
  induction k with
  | zero => intro _; rfl
  | succ k ih =>
    intro h
    have e := ih (fun i hi => h i (by omega))
    show (if q k = true then g (cd_fo q g z k) k else cd_fo q g z k) = (if q' k = true then g (cd_fo q' g z k) k else cd_fo q' g z k)
    rw [e, h k (by omega)]
/-- what the members of s need, together -/
def cd_nb (n : Nat → Int32) (s : Int32) (k : Nat) : Int32 := cd_fo (fun i => bt s i) (fun a i => a ||| n i) 0 k
def cd_wo (w : Nat → Int32) (s : Int32) (k : Nat) : Int32 := cd_fo (fun i => bt s i) (fun a i => a + w i) 0 k
def cd_gm (q : Nat → Bool) (f : Nat → Int32) (k : Nat) : Int32 := cd_fo q (fun a i => if a < f i then f i else a) (-100000) k
theorem cd_nb_bt (n : Nat → Int32) (s : Int32) (j : Nat) : ∀ k, bt (cd_nb n s k) j = true ↔ ∃ u, u < k ∧ bt s u = true ∧ bt (n u) j = true := by
  intro k
  induction k with
  | zero =>
    constructor
    · intro h
      rw [show cd_nb n s 0 = 0 from rfl, b_0] at h
      exact absurd h (by decide)
    · rintro ⟨u, hu, _⟩
      omega
  | succ k ih =>
    by_cases c : bt s k = true
    · rw [show cd_nb n s (k + 1) = cd_nb n s k ||| n k from cd_foT (q := fun i => bt s i) c, b_or, Bool.or_eq_true, ih]
      constructor
      · rintro (⟨u, hu, h1, h2⟩ | h)
        · exact ⟨u, by omega, h1, h2⟩
        · exact ⟨k, by omega, c, h⟩
      · rintro ⟨u, hu, h1, h2⟩
        by_cases e : u = k
        · subst e; exact Or.inr h2
        · exact Or.inl ⟨u, by omega, h1, h2⟩
    · rw [show cd_nb n s (k + 1) = cd_nb n s k from cd_foF (q := fun i => bt s i) c, ih]
      constructor
      · rintro ⟨u, hu, h1, h2⟩
        exact ⟨u, by omega, h1, h2⟩
      · rintro ⟨u, hu, h1, h2⟩
        by_cases e : u = k
        · subst e; exact absurd h1 c
        · exact ⟨u, by omega, h1, h2⟩
/-- closed: X's way -/
def cd_cl (p : Int32) (n : Nat → Int32) (s : Int32) : Bool := decide ((s &&& (p ^^^ (-1))) = 0) && decide ((cd_nb n s 9 &&& (s ^^^ (-1))) = 0)
theorem cd_cl_iff {p : Int32} {n : Nat → Int32} {s : Int32} : cd_cl p n s = true ↔ cd_S s p ∧ ∀ u, u < 9 → bt s u = true → cd_S (n u) s := by
  unfold cd_cl
  rw [Bool.and_eq_true, decide_eq_true_iff, decide_eq_true_iff, cd_sub, cd_sub]
  constructor
  · rintro ⟨h1, h2⟩
    exact ⟨h1, fun u hu hs j hj => h2 j ((cd_nb_bt n s j 9).mpr ⟨u, hu, hs, hj⟩)⟩
  · rintro ⟨h1, h2⟩
    refine ⟨h1, fun j hj => ?_⟩
    obtain ⟨u, hu, hs, hn⟩ := (cd_nb_bt n s j 9).mp hj
    exact h2 u hu hs j hn
/-- closed: Y's way -/
def cd_ok (m : Nat → Int32) (s : Int32) (b : Bool) : Nat → Bool
  | 0 => b
  | k + 1 => cd_ok m s b k && (!bt s k || decide ((m k &&& (s ^^^ (-1))) = 0))
theorem cd_ok_iff {m : Nat → Int32} {s : Int32} {b : Bool} : ∀ k, cd_ok m s b k = true ↔ b = true ∧ ∀ u, u < k → bt s u = true → cd_S (m u) s := by
  intro k
  induction k with
  | zero => exact ⟨fun h => ⟨h, fun u hu => absurd hu (Nat.not_lt_zero u)⟩, fun h => h.1⟩
  | succ k ih =>
    show (cd_ok m s b k && (!bt s k || decide ((m k &&& (s ^^^ (-1))) = 0))) = true ↔ _
    rw [Bool.and_eq_true, ih, Bool.or_eq_true, decide_eq_true_iff, cd_sub]
    constructor
    · rintro ⟨⟨h1, h2⟩, h3⟩
      refine ⟨h1, fun u hu hs => ?_⟩
      by_cases e : u = k
      · subst e
        rcases h3 with h3 | h3
        · rw [hs] at h3; exact absurd h3 (by decide)
        · exact h3
      · exact h2 u (by omega) hs
    · rintro ⟨h1, h2⟩
      refine ⟨⟨h1, fun u hu hs => h2 u (by omega) hs⟩, ?_⟩
      cases c : bt s k with
      | true => exact Or.inr (h2 k (by omega) c)
      | false => exact Or.inl rfl
def cd_un (t : Nat → Int32) (k : Nat) : Int32 := cd_fo (fun i => decide (¬ t i = 0)) (fun a i => a ||| cd_one i) 0 k
theorem cd_un_bt (t : Nat → Int32) (j : Nat) : ∀ k, k ≤ 9 → (bt (cd_un t k) j = true ↔ j < k ∧ ¬ t j = 0) := by
  intro k
  induction k with
  | zero =>
    intro _
    rw [show cd_un t 0 = 0 from rfl, b_0]
    exact ⟨fun h => absurd h (by decide), fun h => absurd h.1 (by omega)⟩
  | succ k ih =>
    intro hk
    by_cases c : t k = 0
    · rw [show cd_un t (k + 1) = cd_un t k from cd_foF (q := fun i => decide (¬ t i = 0)) (by simp [c]), ih (by omega)]
      constructor
      · rintro ⟨h1, h2⟩; exact ⟨by omega, h2⟩
      · rintro ⟨h1, h2⟩
        by_cases e : j = k
        · subst e; exact absurd c h2
        · exact ⟨by omega, h2⟩
    · rw [show cd_un t (k + 1) = cd_un t k ||| cd_one k from cd_foT (q := fun i => decide (¬ t i = 0)) (by simp [c]), cd_set (by omega), ih (by omega)]
      constructor
      · rintro (⟨h1, h2⟩ | h)
        · exact ⟨by omega, h2⟩
        · subst h; exact ⟨by omega, c⟩
      · rintro ⟨h1, h2⟩
        by_cases e : j = k
        · exact Or.inr e
        · exact Or.inl ⟨by omega, h2⟩
/-- the two states but for the worths: p X's present, n X's needs, t Y's there, m Y's needs -/
def cd_R (p : Int32) (n t m : Nat → Int32) : Prop :=
  (∀ i, i < 9 → (t i = 0 ∨ t i = 1)) ∧ (∀ i, bt p i = true ↔ i < 9 ∧ ¬ t i = 0) ∧ (∀ i, i < 9 → bt p i = true → m i = n i) ∧ (∀ i, i < 9 → bt p i = false → n i = 0) ∧ (∀ i, i < 9 → cd_S (n i) p)
def cd_W (w : Nat → Int32) : Prop := ∀ i, i < 9 → -50 ≤ (w i).toInt ∧ (w i).toInt ≤ 50
theorem cd_un_p {p : Int32} {n t m : Nat → Int32} (R : cd_R p n t m) : cd_un t 9 = p := by
  apply cd_extT
  intro i
  rw [cd_un_bt t i 9 (by omega), R.2.1 i]
theorem cd_ok_cl {p : Int32} {n t m : Nat → Int32} (R : cd_R p n t m) (s : Int32) : cd_ok m s (decide ((s &&& (p ^^^ (-1))) = 0)) 9 = cd_cl p n s := by
  obtain ⟨_, h2, h3, _, _⟩ := R
  apply Bool.eq_iff_iff.mpr
  rw [cd_ok_iff, cd_cl_iff, decide_eq_true_iff, cd_sub]
  constructor
  · rintro ⟨a, b⟩
    exact ⟨a, fun u hu hs => by rw [← h3 u hu (a u hs)]; exact b u hu hs⟩
  · rintro ⟨a, b⟩
    exact ⟨a, fun u hu hs => by rw [h3 u hu (a u hs)]; exact b u hu hs⟩
/-- which sets greatestWorth looks at -/
def cd_al (a b s : Int32) : Bool := decide ((a &&& (s ^^^ (-1))) = 0) && decide ((b &&& s) = 0)
def cd_q (p : Int32) (n : Nat → Int32) (a b : Int32) (i : Nat) : Bool := cd_al a b (nI i) && cd_cl p n (nI i)
def cd_G (p : Int32) (w n : Nat → Int32) (a b : Int32) : Int32 := cd_gm (cd_q p n a b) (fun i => cd_wo w (nI i) 9) 512
def cd_cw (p : Int32) (w n : Nat → Int32) (g : Int32) (i : Nat) : Bool := cd_cl p n (nI i) && decide (cd_wo w (nI i) 9 = g)
theorem cd_al_iff {a b s : Int32} : cd_al a b s = true ↔ cd_S a s ∧ (b &&& s) = 0 := by
  unfold cd_al
  rw [Bool.and_eq_true, decide_eq_true_iff, decide_eq_true_iff, cd_sub]
/-- a number that none has bars nothing -/
theorem cd_G_absent {p : Int32} {w n : Nat → Int32} {u : Nat} (hu : u < 32) (h : bt p u = false) : cd_G p w n 0 (cd_one u) = cd_G p w n 0 0 := by
  unfold cd_G cd_gm
  apply cd_fo_congr
  intro i _
  apply Bool.eq_iff_iff.mpr
  unfold cd_q
  rw [Bool.and_eq_true, Bool.and_eq_true, cd_al_iff, cd_al_iff, cd_cl_iff, cd_0and, cd_one0 hu]
  constructor
  · rintro ⟨⟨a, _⟩, c⟩
    exact ⟨⟨a, rfl⟩, c⟩
  · rintro ⟨⟨a, _⟩, c⟩
    refine ⟨⟨a, ?_⟩, c⟩
    cases d : bt (nI i) u with
    | false => rfl
    | true => rw [c.1 u d] at h; exact absurd h (by decide)
