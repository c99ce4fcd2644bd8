def cd_woI (w : Nat → Int32) (s : Int32) : Nat → Int
  | 0 => 0
  | i + 1 => if bt s i = true then cd_woI w s i + (w i).toInt else cd_woI w s i
theorem cd_woIT {w : Nat → Int32} {s : Int32} {i : Nat} (h : bt s i = true) : cd_woI w s (i + 1) = cd_woI w s i + (w i).toInt := if_pos h
theorem cd_woIF {w : Nat → Int32} {s : Int32} {i : Nat} (h : ¬ bt s i = true) : cd_woI w s (i + 1) = cd_woI w s i := if_neg h
theorem cd_addI {x y : Int32} (h1 : -2000000 ≤ x.toInt + y.toInt) (h2 : x.toInt + y.toInt ≤ 2000000) : (x + y).toInt = x.toInt + y.toInt := by
  rw [Int32.toInt_add]
  exact Int.bmod_eq_of_le (by omega) (by omega)
theorem cd_subI {x y : Int32} (h1 : -2000000 ≤ x.toInt - y.toInt) (h2 : x.toInt - y.toInt ≤ 2000000) : (x - y).toInt = x.toInt - y.toInt := by
  rw [Int32.toInt_sub]
  exact Int.bmod_eq_of_le (by omega) (by omega)
theorem cd_wo_I {w : Nat → Int32} (hw : cd_W w) (s : Int32) : ∀ k : Nat, k ≤ 9 → (cd_wo w s k).toInt = cd_woI w s k ∧ -50 * (k : Int) ≤ cd_woI w s k ∧ cd_woI w s k ≤ 50 * (k : Int) := by
  intro k
  induction k with
  | zero => intro _; exact ⟨(by decide : (0 : Int32).toInt = 0), (by decide : -50 * ((0 : Nat) : Int) ≤ 0), (by decide : (0 : Int) ≤ 50 * ((0 : Nat) : Int))⟩
  | succ k ih =>
    intro hk
    obtain ⟨e, h1, h2⟩ := ih (by omega)
    obtain ⟨w1, w2⟩ := hw k (by omega)
    by_cases c : bt s k = true
    · rw [show cd_wo w s (k + 1) = cd_wo w s k + w k from cd_foT (q := fun i => bt s i) c, cd_woIT c]
      rw [cd_addI (by omega) (by omega), e]
      exact ⟨rfl, by omega, by omega⟩
    · rw [show cd_wo w s (k + 1) = cd_wo w s k from cd_foF (q := fun i => bt s i) c, cd_woIF c]
      exact ⟨e, by omega, by omega⟩
theorem cd_woI_upd {w : Nat → Int32} {s x : Int32} {u : Nat} : ∀ k : Nat, cd_woI (upd w u x) s k = cd_woI w s k + (if u < k then (if bt s u = true then x.toInt - (w u).toInt else 0) else 0) := by
  intro k
  induction k with
  | zero =>
    rw [if_neg (Nat.not_lt_zero u)]
    rfl
  | succ k ih =>
    by_cases c : bt s k = true
    · rw [cd_woIT c, cd_woIT c, ih]
      by_cases e : u = k
      · subst e
        rw [if_neg (Nat.lt_irrefl _), if_pos (Nat.lt_succ_self _), if_pos c, pk_us]
        omega
      · rw [pk_un (fun h => e h.symm)]
        by_cases l : u < k
        · rw [if_pos l, if_pos (show u < k + 1 by omega)]
          omega
        · rw [if_neg l, if_neg (show ¬ u < k + 1 by omega)]
          omega
    · rw [cd_woIF c, cd_woIF c, ih]
      by_cases e : u = k
      · subst e
        rw [if_neg (Nat.lt_irrefl _), if_pos (Nat.lt_succ_self _), if_neg c]
      · by_cases l : u < k
        · rw [if_pos l, if_pos (show u < k + 1 by omega)]
        · rw [if_neg l, if_neg (show ¬ u < k + 1 by omega)]
def cd_Mx (q : Nat → Bool) (f : Nat → Int) (k : Nat) (M : Int) : Prop := (∃ j, j < k ∧ q j = true ∧ f j = M) ∧ ∀ j, j < k → q j = true → f j ≤ M
theorem cd_Mx_one {q : Nat → Bool} {f : Nat → Int} {k : Nat} {M M' : Int} (h : cd_Mx q f k M) (h' : cd_Mx q f k M') : M = M' := by
  obtain ⟨⟨j, hj, qj, e⟩, a⟩ := h
  obtain ⟨⟨j', hj', qj', e'⟩, a'⟩ := h'
  have := a j' hj' qj'
  have := a' j hj qj
  omega
theorem cd_Mx_add {q : Nat → Bool} {f f' : Nat → Int} {k : Nat} {M d : Int} (h : cd_Mx q f k M) (e : ∀ j, j < k → q j = true → f' j = f j + d) : cd_Mx q f' k (M + d) := by
  obtain ⟨⟨j, hj, qj, ej⟩, a⟩ := h
  refine ⟨⟨j, hj, qj, by rw [e j hj qj, ej]⟩, fun i hi qi => ?_⟩
  have := a i hi qi
  rw [e i hi qi]
  omega
theorem cd_Mx_or {q q1 q2 : Nat → Bool} {f : Nat → Int} {k : Nat} {A B M : Int} (h1 : cd_Mx q1 f k A) (h2 : cd_Mx q2 f k B) (h : cd_Mx q f k M) (e : ∀ j, j < k → (q j = true ↔ q1 j = true ∨ q2 j = true)) : A ≤ M ∧ B ≤ M ∧ (M = A ∨ M = B) := by
  obtain ⟨⟨j1, hj1, qj1, e1⟩, a1⟩ := h1
  obtain ⟨⟨j2, hj2, qj2, e2⟩, a2⟩ := h2
  obtain ⟨⟨j, hj, qj, ej⟩, a⟩ := h
  have p1 := a j1 hj1 ((e j1 hj1).mpr (Or.inl qj1))
  have p2 := a j2 hj2 ((e j2 hj2).mpr (Or.inr qj2))
  refine ⟨by omega, by omega, ?_⟩
  rcases (e j hj).mp qj with h | h
  · have := a1 j hj h
    exact Or.inl (by omega)
  · have := a2 j hj h
    exact Or.inr (by omega)
theorem cd_gm_Mx {q : Nat → Bool} {f : Nat → Int32} : ∀ k, (∀ j, j < k → q j = true → -100000 < (f j).toInt) → ((∀ j, j < k → ¬ q j = true) ∧ cd_gm q f k = -100000) ∨ cd_Mx q (fun i => (f i).toInt) k (cd_gm q f k).toInt := by
  intro k
  induction k with
  | zero => intro _; exact Or.inl ⟨fun j hj => by omega, rfl⟩
  | succ k ih =>
    intro hf
    have ih := ih (fun j hj => hf j (by omega))
    by_cases c : q k = true
    · have e : cd_gm q f (k + 1) = if cd_gm q f k < f k then f k else cd_gm q f k := cd_foT (q := q) c
      refine Or.inr ?_
      rcases ih with ⟨no, e0⟩ | ⟨⟨j, hj, qj, ej⟩, a⟩
      · have lt : cd_gm q f k < f k := by
          rw [e0, Int32.lt_iff_toInt_lt, show (-100000 : Int32).toInt = -100000 from by decide +kernel]
          exact hf k (by omega) c
        rw [e, if_pos lt]
        refine ⟨⟨k, by omega, c, rfl⟩, fun j hj qj => ?_⟩
        by_cases ek : j = k
        · rw [ek]; exact Int.le_refl _
        · exact absurd qj (no j (by omega))
      · by_cases lt : cd_gm q f k < f k
        · rw [e, if_pos lt]
          rw [Int32.lt_iff_toInt_lt] at lt
          refine ⟨⟨k, by omega, c, rfl⟩, fun i hi qi => ?_⟩
          by_cases ek : i = k
          · rw [ek]; exact Int.le_refl _
          · have h : (f i).toInt ≤ (cd_gm q f k).toInt := a i (by omega) qi
            show (f i).toInt ≤ (f k).toInt
            omega
        · rw [e, if_neg lt]
          rw [Int32.lt_iff_toInt_lt] at lt
          refine ⟨⟨j, by omega, qj, ej⟩, fun i hi qi => ?_⟩
          by_cases ek : i = k
          · subst ek
            show (f i).toInt ≤ (cd_gm q f i).toInt
            omega
          · exact a i (by omega) qi
    · have e : cd_gm q f (k + 1) = cd_gm q f k := cd_foF (q := q) c
      rw [e]
      rcases ih with ⟨no, e0⟩ | ⟨⟨j, hj, qj, ej⟩, a⟩
      · refine Or.inl ⟨fun j hj => ?_, e0⟩
        by_cases ek : j = k
        · rw [ek]; exact c
        · exact no j (by omega)
      · refine Or.inr ⟨⟨j, by omega, qj, ej⟩, fun i hi qi => ?_⟩
        by_cases ek : i = k
        · subst ek; exact absurd qi c
        · exact a i (by omega) qi
theorem cd_G_Mx {p : Int32} {w n : Nat → Int32} {a b : Int32} (hw : cd_W w) (h : ∃ j, j < 512 ∧ cd_q p n a b j = true) : cd_Mx (cd_q p n a b) (fun i => cd_woI w (nI i) 9) 512 (cd_G p w n a b).toInt ∧ -450 ≤ (cd_G p w n a b).toInt ∧ (cd_G p w n a b).toInt ≤ 450 := by
  have hf : ∀ j, j < 512 → cd_q p n a b j = true → -100000 < (cd_wo w (nI j) 9).toInt := by
    intro j _ _
    obtain ⟨e, h1, h2⟩ := cd_wo_I hw (nI j) 9 (by omega)
    rw [e]; omega
  rcases cd_gm_Mx (q := cd_q p n a b) (f := fun i => cd_wo w (nI i) 9) 512 hf with ⟨no, _⟩ | mx
  · obtain ⟨j, hj, qj⟩ := h
    exact absurd qj (no j hj)
  · have ef : (fun i => (cd_wo w (nI i) 9).toInt) = (fun i => cd_woI w (nI i) 9) := by
      funext i
      exact (cd_wo_I hw (nI i) 9 (by omega)).1
    have mx' : cd_Mx (cd_q p n a b) (fun i => (cd_wo w (nI i) 9).toInt) 512 (cd_G p w n a b).toInt := mx
    rw [ef] at mx'
    refine ⟨mx', ?_⟩
    obtain ⟨⟨j, hj, qj, ej⟩, _⟩ := mx'
    obtain ⟨_, h1, h2⟩ := cd_wo_I hw (nI j) 9 (by omega)
    rw [← ej]
    show -450 ≤ cd_woI w (nI j) 9 ∧ cd_woI w (nI j) 9 ≤ 450
    omega
theorem cd_W_upd {w : Nat → Int32} (hw : cd_W w) {u : Nat} {x : Int32} (h1 : -50 ≤ x.toInt) (h2 : x.toInt ≤ 50) : cd_W (upd w u x) := by
  intro i hi
  by_cases e : i = u
  · rw [e, pk_us]; exact ⟨h1, h2⟩
  · rw [pk_un e]; exact hw i hi
/-- there is always a closed set with u, and one without -/
theorem cd_q_with {p : Int32} {n t m : Nat → Int32} (R : cd_R p n t m) {u : Nat} (hu : u < 9) (hp : bt p u = true) : ∃ j, j < 512 ∧ cd_q p n (cd_one u) 0 j = true := by
  obtain ⟨_, h2, _, _, h5⟩ := R
  obtain ⟨j, hj, e⟩ := cd_small (x := p) (fun i hi => ((h2 i).mp hi).1)
  refine ⟨j, hj, ?_⟩
  unfold cd_q
  rw [Bool.and_eq_true, cd_al_iff, cd_cl_iff, cd_one1 (by omega), ← e, cd_0and]
  exact ⟨⟨hp, rfl⟩, fun i hi => hi, fun i hi _ => h5 i hi⟩
theorem cd_S0 (x : Int32) : cd_S 0 x := by
  intro j hj
  rw [b_0] at hj
  exact absurd hj (by decide)
theorem cd_q_without {p : Int32} {n : Nat → Int32} {b : Int32} : ∃ j, j < 512 ∧ cd_q p n 0 b j = true := by
  refine ⟨0, by omega, ?_⟩
  unfold cd_q
  rw [Bool.and_eq_true, cd_al_iff, cd_cl_iff, nI_0, cd_and0]
  refine ⟨⟨cd_S0 0, rfl⟩, cd_S0 p, fun i _ hi => ?_⟩
  rw [b_0] at hi
  exact absurd hi (by decide)
theorem cd_q_split {p : Int32} {n : Nat → Int32} {u : Nat} (hu : u < 9) (j : Nat) : cd_q p n 0 0 j = true ↔ cd_q p n (cd_one u) 0 j = true ∨ cd_q p n 0 (cd_one u) j = true := by
  unfold cd_q
  rw [Bool.and_eq_true, Bool.and_eq_true, Bool.and_eq_true, cd_al_iff, cd_al_iff, cd_al_iff, cd_0and, cd_one1 (by omega), cd_one0 (by omega)]
  constructor
  · rintro ⟨⟨a, _⟩, c⟩
    cases d : bt (nI j) u with
    | true => exact Or.inl ⟨⟨rfl, rfl⟩, c⟩
    | false => exact Or.inr ⟨⟨a, rfl⟩, c⟩
  · rintro (⟨_, c⟩ | ⟨⟨a, _⟩, c⟩)
    · exact ⟨⟨cd_S0 _, rfl⟩, c⟩
    · exact ⟨⟨a, rfl⟩, c⟩
theorem cd_th {p : Int32} {w n t m : Nat → Int32} (R : cd_R p n t m) (hw : cd_W w) {u : Nat} (hu : u < 9) (hp : bt p u = true) (x : Int32) (h1 : -50 ≤ x.toInt) (h2 : x.toInt ≤ 50) : cd_G p (upd w u x) n (cd_one u) 0 = cd_G p (upd w u x) n 0 0 ↔ (cd_G p w n 0 (cd_one u)).toInt - ((cd_G p w n (cd_one u) 0).toInt - (w u).toInt) ≤ x.toInt := by
  have hw' := cd_W_upd hw (u := u) h1 h2
  obtain ⟨mA, _, _⟩ := cd_G_Mx hw (cd_q_with R hu hp)
  obtain ⟨mB, _, _⟩ := cd_G_Mx hw (cd_q_without (p := p) (n := n) (b := cd_one u))
  obtain ⟨mA', _, _⟩ := cd_G_Mx hw' (cd_q_with R hu hp)
  obtain ⟨mB', _, _⟩ := cd_G_Mx hw' (cd_q_without (p := p) (n := n) (b := cd_one u))
  obtain ⟨mC', _, _⟩ := cd_G_Mx hw' (cd_q_without (p := p) (n := n) (b := 0))
  have eA := cd_Mx_one mA' (cd_Mx_add (d := x.toInt - (w u).toInt) (f' := fun i => cd_woI (upd w u x) (nI i) 9) mA (by
    intro j _ qj
    unfold cd_q at qj
    rw [Bool.and_eq_true, cd_al_iff, cd_one1 (by omega)] at qj
    show cd_woI (upd w u x) (nI j) 9 = cd_woI w (nI j) 9 + _
    rw [cd_woI_upd, if_pos hu, if_pos qj.1.1]))
  have eB := cd_Mx_one mB' (cd_Mx_add (d := 0) (f' := fun i => cd_woI (upd w u x) (nI i) 9) mB (by
    intro j _ qj
    unfold cd_q at qj
    rw [Bool.and_eq_true, cd_al_iff, cd_one0 (by omega)] at qj
    show cd_woI (upd w u x) (nI j) 9 = cd_woI w (nI j) 9 + 0
    rw [cd_woI_upd, if_pos hu, if_neg (cd_fn qj.1.2)]))
  obtain ⟨l1, l2, l3⟩ := cd_Mx_or mA' mB' mC' (fun j _ => cd_q_split hu j)
  rw [← Int32.toInt_inj]
  omega
