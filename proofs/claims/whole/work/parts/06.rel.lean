def cd_bi (b : Bool) : Int32 := if b = true then 1 else 0
theorem cd_biT {b : Bool} (h : b = true) : cd_bi b = 1 := if_pos h
theorem cd_biF {b : Bool} (h : ¬ b = true) : cd_bi b = 0 := if_neg h
theorem cd_bi0 {b : Bool} : cd_bi b = 0 ↔ b = false := by
  cases b with
  | true => exact ⟨fun h => absurd h (by decide), fun h => absurd h (by decide)⟩
  | false => exact ⟨fun _ => rfl, fun _ => rfl⟩
theorem cd_bi1 {b : Bool} : ¬ cd_bi b = 0 ↔ b = true := by
  cases b with
  | true => exact ⟨fun _ => rfl, fun _ => by decide⟩
  | false => exact ⟨fun h => absurd rfl h, fun h => absurd h (by decide)⟩
theorem cd_bin (b : Bool) : narrow .boolean (.int (cd_bi b)) = .int (cd_bi b) := by
  cases b <;> rfl
/-- a counter from 0 to e, and a state of any kind -/
theorem cd_loopS {σ : Type} (W : Nat → Int32 → σ → Prop) (A : Nat → σ) (e : Nat) (s0 : σ) (h0 : A 0 = s0) (hx : ∀ n, W (n + 1) (nI e) (A e)) (hs : ∀ n i, i < e → (∀ c x, c = nI i + 1 → x = A (i + 1) → W n c x) → W (n + 1) (nI i) (A i)) : ∃ n, W n 0 s0 := by
  have h : ∀ d i, i + d = e → W (d + 1) (nI i) (A i) := by
    intro d
    induction d with
    | zero =>
      intro i hi
      have e1 : i = e := by omega
      rw [e1]
      exact hx 0
    | succ d ih =>
      intro i hi
      refine hs (d + 1) i (by omega) (fun c x hc hx => ?_)
      rw [hc, hx, nI_1]
      exact ih (i + 1) (by omega)
  have h1 := h e 0 (by omega)
  rw [nI_0, h0] at h1
  exact ⟨e + 1, h1⟩
theorem cd_loop0 (W : Nat → Int32 → Prop) (e : Nat) (hx : ∀ n, W (n + 1) (nI e)) (hs : ∀ n i, i < e → (∀ c, c = nI i + 1 → W n c) → W (n + 1) (nI i)) : ∃ n, W n 0 := by
  obtain ⟨n, h⟩ := cd_loopS (fun n c (_ : Nat) => W n c) (fun _ => 0) e 0 rfl hx (fun n i hi ih => hs n i hi (fun c hc => ih c 0 hc rfl))
  exact ⟨n, h⟩
/-- the first place that is free, or none -/
theorem cd_first (p : Int32) : ∀ e, (∃ k, k < e ∧ bt p k = false ∧ ∀ j, j < k → bt p j = true) ∨ ∀ j, j < e → bt p j = true := by
  intro e
  induction e with
  | zero => exact Or.inr (fun j hj => absurd hj (Nat.not_lt_zero j))
  | succ e ih =>
    rcases ih with ⟨k, hk, h⟩ | h
    · exact Or.inl ⟨k, by omega, h⟩
    · cases c : bt p e with
      | true =>
        refine Or.inr (fun j hj => ?_)
        by_cases e1 : j = e
        · rw [e1]; exact c
        · exact h j (by omega)
      | false => exact Or.inl ⟨e, by omega, c, h⟩
theorem cd_R_0 : cd_R 0 (fun _ => 0) (fun _ => 0) (fun _ => 0) := by
  refine ⟨fun i _ => Or.inl rfl, fun i => ?_, fun i _ _ => rfl, fun i _ _ => rfl, fun i _ j hj => ?_⟩
  · rw [b_0]
    exact ⟨fun h => absurd h (by decide), fun h => absurd rfl h.2⟩
  · exact hj
theorem cd_W_0 : cd_W (fun _ => 0) := by
  intro i _
  exact ⟨(by decide : -50 ≤ (0 : Int32).toInt), (by decide : (0 : Int32).toInt ≤ 50)⟩
theorem cd_R_add {p : Int32} {n t m : Nat → Int32} (R : cd_R p n t m) {u : Nat} (hu : u < 9) (hp : bt p u = false) : cd_R (p ||| cd_one u) n (upd t u 1) (upd m u 0) := by
  obtain ⟨h1, h2, h3, h4, h5⟩ := R
  refine ⟨fun i hi => ?_, fun i => ?_, fun i hi hb => ?_, fun i hi hb => ?_, fun i hi j hj => ?_⟩
  · by_cases e : i = u
    · rw [e, pk_us]; exact Or.inr rfl
    · rw [pk_un e]; exact h1 i hi
  · rw [cd_set (by omega), h2 i]
    by_cases e : i = u
    · rw [e, pk_us]
      exact ⟨fun _ => ⟨hu, by decide⟩, fun _ => Or.inr rfl⟩
    · rw [pk_un e]
      exact ⟨fun h => h.elim id (fun h => absurd h e), Or.inl⟩
  · by_cases e : i = u
    · rw [e, pk_us, h4 u hu hp]
    · rw [pk_un e]
      rw [cd_set (by omega)] at hb
      exact h3 i hi (hb.elim id (fun h => absurd h e))
  · apply h4 i hi
    rw [b_or, Bool.or_eq_false_iff] at hb
    exact hb.1
  · rw [cd_set (by omega)]
    exact Or.inl (h5 i hi j hj)
theorem cd_R_need {p : Int32} {n t m : Nat → Int32} (R : cd_R p n t m) {u : Nat} (hu : u < 9) (hp : bt p u = true) {x y : Int32} (hx : cd_S x p) (hy : y = x) : cd_R p (upd n u x) t (upd m u y) := by
  obtain ⟨h1, h2, h3, h4, h5⟩ := R
  subst hy
  refine ⟨h1, h2, fun i hi hb => ?_, fun i hi hb => ?_, fun i hi => ?_⟩
  · by_cases e : i = u
    · rw [e, pk_us, pk_us]
    · rw [pk_un e, pk_un e]; exact h3 i hi hb
  · by_cases e : i = u
    · rw [e, hp] at hb; exact absurd hb (by decide)
    · rw [pk_un e]; exact h4 i hi hb
  · by_cases e : i = u
    · rw [e, pk_us]; exact hx
    · rw [pk_un e]; exact h5 i hi
theorem cd_R_on {p : Int32} {n t m : Nat → Int32} (R : cd_R p n t m) {u v : Nat} (hu : u < 9) (hp : bt p u = true) (hv : v < 9) (hq : bt p v = true) : cd_R p (upd n u (n u ||| cd_one v)) t (upd m u (m u ||| cd_one v)) := by
  refine cd_R_need R hu hp (fun j hj => ?_) (by rw [R.2.2.1 u hu hp])
  rw [cd_set (by omega)] at hj
  rcases hj with h | h
  · exact R.2.2.2.2 u hu j h
  · rw [h]; exact hq
theorem cd_R_off {p : Int32} {n t m : Nat → Int32} (R : cd_R p n t m) {u v : Nat} (hu : u < 9) (hp : bt p u = true) (hv : v < 9) : cd_R p (upd n u (n u &&& (cd_one v ^^^ (-1)))) t (upd m u (m u &&& (cd_one v ^^^ (-1)))) := by
  refine cd_R_need R hu hp (fun j hj => ?_) (by rw [R.2.2.1 u hu hp])
  rw [cd_clr (by omega)] at hj
  exact R.2.2.2.2 u hu j hj.1
/-- the mask c over the first i places -/
def cd_ms (a : Nat → Int32) (c : Int32) (i : Nat) : Nat → Int32 := fun j => if j < i then a j &&& c else a j
theorem cd_ms_0 (a : Nat → Int32) (c : Int32) : cd_ms a c 0 = a := by
  funext j
  exact if_neg (Nat.not_lt_zero j)
theorem cd_ms_at (a : Nat → Int32) (c : Int32) (i : Nat) : cd_ms a c i i = a i := if_neg (Nat.lt_irrefl i)
theorem cd_ms_in {a : Nat → Int32} {c : Int32} {i j : Nat} (h : j < i) : cd_ms a c i j = a j &&& c := if_pos h
theorem cd_ms_s (a : Nat → Int32) (c : Int32) (i : Nat) : upd (cd_ms a c i) i (a i &&& c) = cd_ms a c (i + 1) := by
  funext j
  by_cases e : j = i
  · rw [e, pk_us, cd_ms_in (Nat.lt_succ_self i)]
  · rw [pk_un e]
    unfold cd_ms
    by_cases l : j < i
    · rw [if_pos l, if_pos (show j < i + 1 by omega)]
    · rw [if_neg l, if_neg (show ¬ j < i + 1 by omega)]
theorem cd_R_rem {p : Int32} {n t m : Nat → Int32} (R : cd_R p n t m) {u : Nat} (hu : u < 9) : cd_R (p &&& (cd_one u ^^^ (-1))) (cd_ms (upd n u 0) (cd_one u ^^^ (-1)) 9) (upd t u 0) (cd_ms m (cd_one u ^^^ (-1)) 9) := by
  obtain ⟨h1, h2, h3, h4, h5⟩ := R
  have hb : ∀ i, bt (p &&& (cd_one u ^^^ (-1))) i = true ↔ bt p i = true ∧ i ≠ u := fun i => cd_clr (by omega) p i
  refine ⟨fun i hi => ?_, fun i => ?_, fun i hi h => ?_, fun i hi h => ?_, fun i hi j hj => ?_⟩
  · by_cases e : i = u
    · rw [e, pk_us]; exact Or.inl rfl
    · rw [pk_un e]; exact h1 i hi
  · rw [hb, h2 i]
    by_cases e : i = u
    · rw [e, pk_us]
      exact ⟨fun h => absurd rfl h.2, fun h => absurd rfl h.2⟩
    · rw [pk_un e]
      exact ⟨fun h => h.1, fun h => ⟨h, e⟩⟩
  · rw [hb] at h
    rw [cd_ms_in hi, cd_ms_in hi, pk_un h.2, h3 i hi h.1]
  · rw [cd_ms_in hi]
    by_cases e : i = u
    · rw [e, pk_us, cd_0and]
    · rw [pk_un e, h4 i hi ?_, cd_0and]
      apply cd_nf
      intro c
      exact cd_fn h ((hb i).mpr ⟨c, e⟩)
  · rw [cd_ms_in hi, cd_clr (by omega)] at hj
    rw [hb]
    refine ⟨?_, hj.2⟩
    by_cases e : i = u
    · rw [e, pk_us, b_0] at hj; exact absurd hj.1 (by decide)
    · rw [pk_un e] at hj; exact h5 i hi j hj.1
theorem cd_back {a : Nat → Int32} {u : Nat} {x : Int32} : upd (upd a u x) u (a u) = a := by
  funext j
  by_cases e : j = u
  · rw [e, pk_us]
  · rw [pk_un e, pk_un e]
