theorem cd_nf {b : Bool} (h : ¬ b = true) : b = false := by
  cases b with
  | true => exact absurd rfl h
  | false => rfl
theorem cd_fn {b : Bool} (h : b = false) : ¬ b = true := by
  rw [h]; decide
theorem cd_b1 (i : Nat) : bt 1 i = decide (i = 0) := by
  rcases Nat.lt_or_ge i 32 with h | h
  · exact (by decide +kernel : ∀ i, i < 32 → bt 1 i = decide (i = 0)) i h
  · rw [b_big h, decide_eq_false (by omega)]
theorem cd_b511 (i : Nat) : bt 511 i = decide (i < 9) := by
  rcases Nat.lt_or_ge i 32 with h | h
  · exact (by decide +kernel : ∀ i, i < 32 → bt 511 i = decide (i < 9)) i h
  · rw [b_big h, decide_eq_false (by omega)]
theorem cd_not (x : Int32) {i : Nat} (hi : i < 32) : bt (x ^^^ (-1)) i = !bt x i := by
  rw [b_xor, b_m1 i hi]
  cases bt x i <;> rfl
/-- a within b, bit by bit -/
def cd_S (a b : Int32) : Prop := ∀ j, bt a j = true → bt b j = true
theorem cd_sub {a b : Int32} : (a &&& (b ^^^ (-1))) = 0 ↔ cd_S a b := by
  constructor
  · intro h j ha
    by_cases hj : j < 32
    · have e : bt (a &&& (b ^^^ (-1))) j = bt 0 j := by rw [h]
      rw [b_and, cd_not b hj, b_0, ha] at e
      cases hb : bt b j with
      | true => rfl
      | false => rw [hb] at e; exact absurd e (by decide)
    · rw [b_big (by omega)] at ha; exact absurd ha (by decide)
  · intro h
    apply b_ext
    intro i hi
    rw [b_and, cd_not b hi, b_0]
    cases ha : bt a i with
    | false => rfl
    | true => rw [h i ha]; rfl
theorem cd_subA {a b : Int32} : (b &&& a) = a ↔ cd_S a b := by
  constructor
  · intro h j ha
    have e : bt (b &&& a) j = bt a j := by rw [h]
    rw [b_and, ha, Bool.and_true] at e
    exact e
  · intro h
    apply b_ext
    intro i _
    rw [b_and]
    cases ha : bt a i with
    | false => rw [Bool.and_false]
    | true => rw [h i ha]; rfl
theorem cd_andC (a b : Int32) : a &&& b = b &&& a := by
  apply b_ext
  intro i _
  rw [b_and, b_and, Bool.and_comm]
theorem cd_0and (x : Int32) : (0 : Int32) &&& x = 0 := by
  apply b_ext
  intro i _
  rw [b_and, b_0]; rfl
theorem cd_and0 (x : Int32) : x &&& (0 : Int32) = 0 := by
  rw [cd_andC, cd_0and]
def cd_one (k : Nat) : Int32 := 1 <<< (nI k &&& 31)
theorem cd_bone {k : Nat} (hk : k < 32) (i : Nat) : bt (cd_one k) i = decide (i = k) := by
  rcases Nat.lt_or_ge i 32 with h | h
  · unfold cd_one
    rw [b_shl k hk 1 h, cd_b1]
    by_cases e : i = k
    · subst e
      simp
    · rw [decide_eq_false e]
      by_cases e2 : k ≤ i
      · rw [decide_eq_false (p := i - k = 0) (by omega), Bool.and_false]
      · rw [decide_eq_false e2]; rfl
  · rw [b_big h, decide_eq_false (by omega)]
theorem cd_boneT {k i : Nat} (hk : k < 32) : bt (cd_one k) i = true ↔ i = k := by
  rw [cd_bone hk, decide_eq_true_iff]
theorem cd_bit (x : Int32) {k : Nat} (hk : k < 32) : ((x >>> (nI k &&& 31)) &&& 1) = if bt x k = true then 1 else 0 := by
  apply b_ext
  intro i hi
  rw [b_and, cd_b1]
  by_cases e : i = 0
  · subst e
    rw [b_sshr k hk x (by omega), if_pos (show k + 0 < 32 by omega), Nat.add_zero]
    generalize bt x k = c
    cases c <;> decide +kernel
  · rw [decide_eq_false e, Bool.and_false]
    by_cases c : bt x k = true
    · rw [if_pos c, cd_b1, decide_eq_false e]
    · rw [if_neg c, b_0]
theorem cd_bit1 (x : Int32) {k : Nat} (hk : k < 32) : ((x >>> (nI k &&& 31)) &&& 1) = 1 ↔ bt x k = true := by
  rw [cd_bit x hk]
  by_cases c : bt x k = true
  · rw [if_pos c]; exact ⟨fun _ => c, fun _ => rfl⟩
  · rw [if_neg c]; exact ⟨fun h => absurd h (by decide), fun h => absurd h c⟩
theorem cd_bit0 (x : Int32) {k : Nat} (hk : k < 32) : ((x >>> (nI k &&& 31)) &&& 1) = 0 ↔ bt x k = false := by
  rw [cd_bit x hk]
  by_cases c : bt x k = true
  · rw [if_pos c]; exact ⟨fun h => absurd h (by decide), fun h => by rw [c] at h; exact absurd h (by decide)⟩
  · rw [if_neg c]; exact ⟨fun _ => cd_nf c, fun _ => rfl⟩
theorem cd_one1 {u : Nat} (hu : u < 32) (s : Int32) : cd_S (cd_one u) s ↔ bt s u = true := by
  constructor
  · intro h
    exact h u ((cd_boneT hu).mpr rfl)
  · intro h j hj
    rw [cd_boneT hu] at hj
    rw [hj]; exact h
theorem cd_one0 {u : Nat} (hu : u < 32) (s : Int32) : (cd_one u &&& s) = 0 ↔ bt s u = false := by
  constructor
  · intro h
    have e : bt (cd_one u &&& s) u = bt 0 u := by rw [h]
    rw [b_and, b_0, (cd_boneT hu).mpr rfl, Bool.true_and] at e
    exact e
  · intro h
    apply b_ext
    intro i _
    rw [b_and, b_0, cd_bone hu]
    by_cases e : i = u
    · rw [e, h, Bool.and_false]
    · rw [decide_eq_false e]; rfl
/-- bit v cleared -/
theorem cd_clr {v : Nat} (hv : v < 32) (x : Int32) (i : Nat) : bt (x &&& (cd_one v ^^^ (-1))) i = true ↔ bt x i = true ∧ i ≠ v := by
  rw [b_and, Bool.and_eq_true]
  by_cases hi : i < 32
  · rw [cd_not _ hi, cd_bone hv]
    by_cases e : i = v
    · rw [decide_eq_true e]; simp [e]
    · rw [decide_eq_false e]; simp [e]
  · rw [b_big (x := x) (by omega)]; simp
theorem cd_set {v : Nat} (hv : v < 32) (x : Int32) (i : Nat) : bt (x ||| cd_one v) i = true ↔ bt x i = true ∨ i = v := by
  rw [b_or, Bool.or_eq_true, cd_boneT hv]
theorem cd_extT {x y : Int32} (h : ∀ i, bt x i = true ↔ bt y i = true) : x = y := by
  apply b_ext
  intro i _
  cases c : bt y i with
  | true => exact (h i).mpr c
  | false =>
    cases d : bt x i with
    | true => rw [(h i).mp d] at c; exact absurd c (by decide)
    | false => rfl
theorem cd_small {x : Int32} (h : ∀ i, bt x i = true → i < 9) : ∃ j, j < 512 ∧ x = nI j := by
  have e : x = x &&& 511 := by
    apply cd_extT
    intro i
    rw [b_and, cd_b511, Bool.and_eq_true, decide_eq_true_iff]
    exact ⟨fun a => ⟨a, h i a⟩, fun a => a.1⟩
  obtain ⟨j, hj, ej⟩ := pk_andE x (m := 511) 9 (by decide)
  exact ⟨j, hj, e.trans ej⟩
theorem cd_mono {a b : Nat} (ha : a < 512) (h : cd_S (nI a) (nI b)) : a ≤ b := by
  have e : nI a &&& nI b = nI a := by
    rw [cd_andC]; exact cd_subA.mpr h
  rw [nx_and] at e
  have hl : a &&& b ≤ a := Nat.and_le_left
  have e2 := (nI_eq (a := a &&& b) (b := a) (by omega) (by omega)).mp e
  exact Nat.le_trans (Nat.le_of_eq e2.symm) Nat.and_le_right
