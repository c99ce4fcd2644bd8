section
def bt (x : Int32) (i : Nat) : Bool := x.toBitVec.getLsbD i
theorem b_ext {x y : Int32} (h : ∀ i, i < 32 → bt x i = bt y i) : x = y := Int32.toBitVec_inj.mp (BitVec.eq_of_getLsbD_eq (fun i hi => h i hi))
theorem b_or (x y : Int32) (i : Nat) : bt (x ||| y) i = (bt x i || bt y i) := by unfold bt; rw [Int32.toBitVec_or, BitVec.getLsbD_or]
theorem b_and (x y : Int32) (i : Nat) : bt (x &&& y) i = (bt x i && bt y i) := by unfold bt; rw [Int32.toBitVec_and, BitVec.getLsbD_and]
theorem b_xor (x y : Int32) (i : Nat) : bt (x ^^^ y) i = (bt x i ^^ bt y i) := by unfold bt; rw [Int32.toBitVec_xor, BitVec.getLsbD_xor]
theorem b_big {x : Int32} {i : Nat} (h : 32 ≤ i) : bt x i = false := BitVec.getLsbD_of_ge _ _ h
theorem b_m1 : ∀ i, i < 32 → bt (-1) i = true := by decide +kernel
theorem b_0 (i : Nat) : bt 0 i = false := BitVec.getLsbD_zero
theorem s_l : ∀ n, n < 32 → ((nI n &&& 31).toBitVec.smod 32).toNat = n := by decide +kernel
theorem b_shl (n : Nat) (hn : n < 32) (x : Int32) {i : Nat} (hi : i < 32) : bt (x <<< (nI n &&& 31)) i = (decide (n ≤ i) && bt x (i - n)) := by
  unfold bt
  rw [Int32.toBitVec_shiftLeft]
  show (x.toBitVec <<< ((nI n &&& 31).toBitVec.smod 32).toNat).getLsbD i = _
  rw [s_l n hn, BitVec.getLsbD_shiftLeft]
  rcases Nat.lt_or_ge i n with h | h
  · simp [h, Nat.not_le.mpr h]
  · simp [hi, h, Nat.not_lt.mpr h]
theorem b_sshr (n : Nat) (hn : n < 32) (x : Int32) {i : Nat} (hi : i < 32) : bt (x >>> (nI n &&& 31)) i = if n + i < 32 then bt x (n + i) else bt x 31 := by
  unfold bt
  rw [Int32.toBitVec_shiftRight]
  show (x.toBitVec.sshiftRight ((nI n &&& 31).toBitVec.smod 32).toNat).getLsbD i = _
  rw [s_l n hn, BitVec.getLsbD_sshiftRight, BitVec.msb_eq_getLsbD_last]
  simp [hi]
theorem nx_and (a b : Nat) : nI a &&& nI b = nI (a &&& b) := by
  apply Int32.toBitVec_inj.1
  show BitVec.ofNat 32 a &&& BitVec.ofNat 32 b = BitVec.ofNat 32 (a &&& b)
  apply BitVec.eq_of_getLsbD_eq
  intro i hi
  simp [hi]
theorem pk_us {f : Nat → Int32} {k : Nat} {x : Int32} : upd f k x k = x := if_pos rfl
theorem pk_un {f : Nat → Int32} {k j : Nat} {x : Int32} (h : j ≠ k) : upd f k x j = f j := if_neg h
theorem pk_m1 (n : Nat) : nI (n + 1) + (-1) = nI n := by
  rw [← nI_1, Int32.add_assoc, show (1 : Int32) + (-1) = 0 from rfl, Int32.add_zero]
theorem pk_le {x y : Int32} {A B : Prop} (a b : Nat) (f : a ≤ b → A) (g : b < a → B) (hx : x = nI a := by rfl) (hy : y = nI b := by rfl) (ha : a < 2 ^ 31 := by omega) (hb : b < 2 ^ 31 := by omega) : (x ≤ y → A) ∧ (¬ x ≤ y → B) := by
  subst hx hy
  rw [nI_leI ha hb]
  exact ⟨f, fun z => g (by omega)⟩
theorem pk_lt {x y : Int32} {A B : Prop} (a b : Nat) (f : a < b → A) (g : b ≤ a → B) (hx : x = nI a := by rfl) (hy : y = nI b := by rfl) (ha : a < 2 ^ 31 := by omega) (hb : b < 2 ^ 31 := by omega) : (x < y → A) ∧ (¬ x < y → B) := by
  subst hx hy
  rw [nI_ltI ha hb]
  exact ⟨f, fun z => g (by omega)⟩
theorem pk_eq {x y : Int32} {A B : Prop} (a b : Nat) (f : a = b → A) (g : a ≠ b → B) (hx : x = nI a := by rfl) (hy : y = nI b := by rfl) (ha : a < 2 ^ 31 := by omega) (hb : b < 2 ^ 31 := by omega) : (x = y → A) ∧ (¬ x = y → B) := by
  subst hx hy
  rw [nI_eq ha hb]
  exact ⟨f, g⟩
theorem pk_in {x : Int32} (n N : Nat) (h : n < N) (hx : x = nI n := by rfl) (hN : N < 2 ^ 31 := by omega) : vp_in x N := by
  subst hx
  exact vp_in_nI h hN
theorem pk_cl {x : Int32} (n : Nat) (hx : x = nI n := by rfl) (h : n < 2 ^ 31 := by omega) : x.toNatClampNeg = n := by
  subst hx
  exact nI_clamp h
theorem pk_tn {n : Nat} (h : n < 2 ^ 32) : (nI n).toBitVec.toNat = n := Nat.mod_eq_of_lt h
theorem pk_and (x : Int32) {m : Int32} (k : Nat) (hm : m.toBitVec.toNat = 2 ^ k - 1) : x &&& m = nI (x.toBitVec.toNat % 2 ^ k) := by
  apply Int32.toBitVec_inj.mp
  apply BitVec.eq_of_toNat_eq
  rw [Int32.toBitVec_and, BitVec.toNat_and, hm, Nat.and_two_pow_sub_one_eq_mod]
  show _ = (BitVec.ofNat 32 _).toNat
  rw [BitVec.toNat_ofNat]
  exact (Nat.mod_eq_of_lt (Nat.lt_of_le_of_lt (Nat.mod_le _ _) x.toBitVec.isLt)).symm
theorem pk_andE (x : Int32) {m : Int32} (k : Nat) (hm : m.toBitVec.toNat = 2 ^ k - 1) : ∃ j : Nat, j < 2 ^ k ∧ x &&& m = nI j := ⟨_, Nat.mod_lt _ (Nat.two_pow_pos k), pk_and x k hm⟩
theorem pk_loop {σ : Type} (W : Nat → Nat → σ → Prop) (I : Nat → σ → Prop) (e i0 : Nat) (s : σ) (hi : i0 ≤ e) (h0 : I i0 s) (hx : ∀ n s, I e s → W (n + 1) e s)
    (hs : ∀ n i s, i < e → I i s → (∀ s', I (i + 1) s' → W n (i + 1) s') → W (n + 1) i s) : ∃ n, W n i0 s :=
  ⟨e + 1, loop_i W I e hx hs (e + 1) i0 s hi (by omega) h0⟩
theorem pk_loopD {σ : Type} (W : Nat → Nat → σ → Prop) (I : Nat → σ → Prop) (hx : ∀ n s, I 0 s → W (n + 1) 0 s)
    (hs : ∀ n i s, I (i + 1) s → (∀ s', I i s' → W n i s') → W (n + 1) (i + 1) s) : ∀ (e : Nat) (s : σ), I e s → W (e + 1) e s := by
  intro e
  induction e with
  | zero => exact fun s h => hx 0 s h
  | succ e ih => exact fun s h => hs (e + 1) e s h (fun s' h' => ih s' h')
end
section
theorem cd_nf {b : Bool} (h : ¬ b = true) : b = false := by
  cases b with
  | true => exact absurd rfl h
  | false => rfl
theorem cd_fn {b : Bool} (h : b = false) : ¬ b = true := by
  rw [h]; decide
theorem cd_b1 (i : Nat) : bt 1 i = decide (i = 0) := by
  rcases Nat.lt_or_ge i 32 with h | h
  · exact (by decide +kernel : ∀ i, i < 32 → bt 1 i = decide (i = 0)) i h
  · rw [b_big h, decide_eq_false (by omega)]
theorem cd_b511 (i : Nat) : bt 511 i = decide (i < 9) := by
  rcases Nat.lt_or_ge i 32 with h | h
  · exact (by decide +kernel : ∀ i, i < 32 → bt 511 i = decide (i < 9)) i h
  · rw [b_big h, decide_eq_false (by omega)]
theorem cd_not (x : Int32) {i : Nat} (hi : i < 32) : bt (x ^^^ (-1)) i = !bt x i := by
  rw [b_xor, b_m1 i hi]
  cases bt x i <;> rfl
/-- a within b, bit by bit -/
def cd_S (a b : Int32) : Prop := ∀ j, bt a j = true → bt b j = true
theorem cd_sub {a b : Int32} : (a &&& (b ^^^ (-1))) = 0 ↔ cd_S a b := by
  constructor
  · intro h j ha
    by_cases hj : j < 32
    · have e : bt (a &&& (b ^^^ (-1))) j = bt 0 j := by rw [h]
      rw [b_and, cd_not b hj, b_0, ha] at e
      cases hb : bt b j with
      | true => rfl
      | false => rw [hb] at e; exact absurd e (by decide)
    · rw [b_big (by omega)] at ha; exact absurd ha (by decide)
  · intro h
    apply b_ext
    intro i hi
    rw [b_and, cd_not b hi, b_0]
    cases ha : bt a i with
    | false => rfl
    | true => rw [h i ha]; rfl
theorem cd_subA {a b : Int32} : (b &&& a) = a ↔ cd_S a b := by
  constructor
  · intro h j ha
    have e : bt (b &&& a) j = bt a j := by rw [h]
    rw [b_and, ha, Bool.and_true] at e
    exact e
  · intro h
    apply b_ext
    intro i _
    rw [b_and]
    cases ha : bt a i with
    | false => rw [Bool.and_false]
    | true => rw [h i ha]; rfl
theorem cd_andC (a b : Int32) : a &&& b = b &&& a := by
  apply b_ext
  intro i _
  rw [b_and, b_and, Bool.and_comm]
theorem cd_0and (x : Int32) : (0 : Int32) &&& x = 0 := by
  apply b_ext
  intro i _
  rw [b_and, b_0]; rfl
theorem cd_and0 (x : Int32) : x &&& (0 : Int32) = 0 := by
  rw [cd_andC, cd_0and]
def cd_one (k : Nat) : Int32 := 1 <<< (nI k &&& 31)
theorem cd_bone {k : Nat} (hk : k < 32) (i : Nat) : bt (cd_one k) i = decide (i = k) := by
  rcases Nat.lt_or_ge i 32 with h | h
  · unfold cd_one
    rw [b_shl k hk 1 h, cd_b1]
    by_cases e : i = k
    · subst e
      simp
    · rw [decide_eq_false e]
      by_cases e2 : k ≤ i
      · rw [decide_eq_false (p := i - k = 0) (by omega), Bool.and_false]
      · rw [decide_eq_false e2]; rfl
  · rw [b_big h, decide_eq_false (by omega)]
theorem cd_boneT {k i : Nat} (hk : k < 32) : bt (cd_one k) i = true ↔ i = k := by
  rw [cd_bone hk, decide_eq_true_iff]
theorem cd_bit (x : Int32) {k : Nat} (hk : k < 32) : ((x >>> (nI k &&& 31)) &&& 1) = if bt x k = true then 1 else 0 := by
  apply b_ext
  intro i hi
  rw [b_and, cd_b1]
  by_cases e : i = 0
  · subst e
    rw [b_sshr k hk x (by omega), if_pos (show k + 0 < 32 by omega), Nat.add_zero]
    generalize bt x k = c
    cases c <;> decide +kernel
  · rw [decide_eq_false e, Bool.and_false]
    by_cases c : bt x k = true
    · rw [if_pos c, cd_b1, decide_eq_false e]
    · rw [if_neg c, b_0]
theorem cd_bit1 (x : Int32) {k : Nat} (hk : k < 32) : ((x >>> (nI k &&& 31)) &&& 1) = 1 ↔ bt x k = true := by
  rw [cd_bit x hk]
  by_cases c : bt x k = true
  · rw [if_pos c]; exact ⟨fun _ => c, fun _ => rfl⟩
  · rw [if_neg c]; exact ⟨fun h => absurd h (by decide), fun h => absurd h c⟩
theorem cd_bit0 (x : Int32) {k : Nat} (hk : k < 32) : ((x >>> (nI k &&& 31)) &&& 1) = 0 ↔ bt x k = false := by
  rw [cd_bit x hk]
  by_cases c : bt x k = true
  · rw [if_pos c]; exact ⟨fun h => absurd h (by decide), fun h => by rw [c] at h; exact absurd h (by decide)⟩
  · rw [if_neg c]; exact ⟨fun _ => cd_nf c, fun _ => rfl⟩
theorem cd_one1 {u : Nat} (hu : u < 32) (s : Int32) : cd_S (cd_one u) s ↔ bt s u = true := by
  constructor
  · intro h
    exact h u ((cd_boneT hu).mpr rfl)
  · intro h j hj
    rw [cd_boneT hu] at hj
    rw [hj]; exact h
theorem cd_one0 {u : Nat} (hu : u < 32) (s : Int32) : (cd_one u &&& s) = 0 ↔ bt s u = false := by
  constructor
  · intro h
    have e : bt (cd_one u &&& s) u = bt 0 u := by rw [h]
    rw [b_and, b_0, (cd_boneT hu).mpr rfl, Bool.true_and] at e
    exact e
  · intro h
    apply b_ext
    intro i _
    rw [b_and, b_0, cd_bone hu]
    by_cases e : i = u
    · rw [e, h, Bool.and_false]
    · rw [decide_eq_false e]; rfl
/-- bit v cleared -/
theorem cd_clr {v : Nat} (hv : v < 32) (x : Int32) (i : Nat) : bt (x &&& (cd_one v ^^^ (-1))) i = true ↔ bt x i = true ∧ i ≠ v := by
  rw [b_and, Bool.and_eq_true]
  by_cases hi : i < 32
  · rw [cd_not _ hi, cd_bone hv]
    by_cases e : i = v
    · rw [decide_eq_true e]; simp [e]
    · rw [decide_eq_false e]; simp [e]
  · rw [b_big (x := x) (by omega)]; simp
theorem cd_set {v : Nat} (hv : v < 32) (x : Int32) (i : Nat) : bt (x ||| cd_one v) i = true ↔ bt x i = true ∨ i = v := by
  rw [b_or, Bool.or_eq_true, cd_boneT hv]
theorem cd_extT {x y : Int32} (h : ∀ i, bt x i = true ↔ bt y i = true) : x = y := by
  apply b_ext
  intro i _
  cases c : bt y i with
  | true => exact (h i).mpr c
  | false =>
    cases d : bt x i with
    | true => rw [(h i).mp d] at c; exact absurd c (by decide)
    | false => rfl
theorem cd_small {x : Int32} (h : ∀ i, bt x i = true → i < 9) : ∃ j, j < 512 ∧ x = nI j := by
  have e : x = x &&& 511 := by
    apply cd_extT
    intro i
    rw [b_and, cd_b511, Bool.and_eq_true, decide_eq_true_iff]
    exact ⟨fun a => ⟨a, h i a⟩, fun a => a.1⟩
  obtain ⟨j, hj, ej⟩ := pk_andE x (m := 511) 9 (by decide)
  exact ⟨j, hj, e.trans ej⟩
theorem cd_mono {a b : Nat} (ha : a < 512) (h : cd_S (nI a) (nI b)) : a ≤ b := by
  have e : nI a &&& nI b = nI a := by
    rw [cd_andC]; exact cd_subA.mpr h
  rw [nx_and] at e
  have hl : a &&& b ≤ a := Nat.and_le_left
  have e2 := (nI_eq (a := a &&& b) (b := a) (by omega) (by omega)).mp e
  exact Nat.le_trans (Nat.le_of_eq e2.symm) Nat.and_le_right
end
section
/-- the fold of every loop here: places 0 .. k-1, those with q alone -/
def cd_fo (q : Nat → Bool) (g : Int32 → Nat → Int32) (z : Int32) : Nat → Int32
  | 0 => z
  | i + 1 => if q i = true then g (cd_fo q g z i) i else cd_fo q g z i
theorem cd_foT {q : Nat → Bool} {g : Int32 → Nat → Int32} {z : Int32} {i : Nat} (h : q i = true) : cd_fo q g z (i + 1) = g (cd_fo q g z i) i := if_pos h
theorem cd_foF {q : Nat → Bool} {g : Int32 → Nat → Int32} {z : Int32} {i : Nat} (h : ¬ q i = true) : cd_fo q g z (i + 1) = cd_fo q g z i := if_neg h
theorem cd_fo_congr {q q' : Nat → Bool} {g : Int32 → Nat → Int32} {z : Int32} : ∀ k, (∀ i, i < k → q i = q' i) → cd_fo q g z k = cd_fo q' g z k := by
  intro k
  induction k with
  | zero => intro _; rfl
  | succ k ih =>
    intro h
    have e := ih (fun i hi => h i (by omega))
    show (if q k = true then g (cd_fo q g z k) k else cd_fo q g z k) = (if q' k = true then g (cd_fo q' g z k) k else cd_fo q' g z k)
    rw [e, h k (by omega)]
/-- what the members of s need, together -/
def cd_nb (n : Nat → Int32) (s : Int32) (k : Nat) : Int32 := cd_fo (fun i => bt s i) (fun a i => a ||| n i) 0 k
def cd_wo (w : Nat → Int32) (s : Int32) (k : Nat) : Int32 := cd_fo (fun i => bt s i) (fun a i => a + w i) 0 k
def cd_gm (q : Nat → Bool) (f : Nat → Int32) (k : Nat) : Int32 := cd_fo q (fun a i => if a < f i then f i else a) (-100000) k
theorem cd_nb_bt (n : Nat → Int32) (s : Int32) (j : Nat) : ∀ k, bt (cd_nb n s k) j = true ↔ ∃ u, u < k ∧ bt s u = true ∧ bt (n u) j = true := by
  intro k
  induction k with
  | zero =>
    constructor
    · intro h
      rw [show cd_nb n s 0 = 0 from rfl, b_0] at h
      exact absurd h (by decide)
    · rintro ⟨u, hu, _⟩
      omega
  | succ k ih =>
    by_cases c : bt s k = true
    · rw [show cd_nb n s (k + 1) = cd_nb n s k ||| n k from cd_foT (q := fun i => bt s i) c, b_or, Bool.or_eq_true, ih]
      constructor
      · rintro (⟨u, hu, h1, h2⟩ | h)
        · exact ⟨u, by omega, h1, h2⟩
        · exact ⟨k, by omega, c, h⟩
      · rintro ⟨u, hu, h1, h2⟩
        by_cases e : u = k
        · subst e; exact Or.inr h2
        · exact Or.inl ⟨u, by omega, h1, h2⟩
    · rw [show cd_nb n s (k + 1) = cd_nb n s k from cd_foF (q := fun i => bt s i) c, ih]
      constructor
      · rintro ⟨u, hu, h1, h2⟩
        exact ⟨u, by omega, h1, h2⟩
      · rintro ⟨u, hu, h1, h2⟩
        by_cases e : u = k
        · subst e; exact absurd h1 c
        · exact ⟨u, by omega, h1, h2⟩
/-- closed: X's way -/
def cd_cl (p : Int32) (n : Nat → Int32) (s : Int32) : Bool := decide ((s &&& (p ^^^ (-1))) = 0) && decide ((cd_nb n s 9 &&& (s ^^^ (-1))) = 0)
theorem cd_cl_iff {p : Int32} {n : Nat → Int32} {s : Int32} : cd_cl p n s = true ↔ cd_S s p ∧ ∀ u, u < 9 → bt s u = true → cd_S (n u) s := by
  unfold cd_cl
  rw [Bool.and_eq_true, decide_eq_true_iff, decide_eq_true_iff, cd_sub, cd_sub]
  constructor
  · rintro ⟨h1, h2⟩
    exact ⟨h1, fun u hu hs j hj => h2 j ((cd_nb_bt n s j 9).mpr ⟨u, hu, hs, hj⟩)⟩
  · rintro ⟨h1, h2⟩
    refine ⟨h1, fun j hj => ?_⟩
    obtain ⟨u, hu, hs, hn⟩ := (cd_nb_bt n s j 9).mp hj
    exact h2 u hu hs j hn
/-- closed: Y's way -/
def cd_ok (m : Nat → Int32) (s : Int32) (b : Bool) : Nat → Bool
  | 0 => b
  | k + 1 => cd_ok m s b k && (!bt s k || decide ((m k &&& (s ^^^ (-1))) = 0))
theorem cd_ok_iff {m : Nat → Int32} {s : Int32} {b : Bool} : ∀ k, cd_ok m s b k = true ↔ b = true ∧ ∀ u, u < k → bt s u = true → cd_S (m u) s := by
  intro k
  induction k with
  | zero => exact ⟨fun h => ⟨h, fun u hu => absurd hu (Nat.not_lt_zero u)⟩, fun h => h.1⟩
  | succ k ih =>
    show (cd_ok m s b k && (!bt s k || decide ((m k &&& (s ^^^ (-1))) = 0))) = true ↔ _
    rw [Bool.and_eq_true, ih, Bool.or_eq_true, decide_eq_true_iff, cd_sub]
    constructor
    · rintro ⟨⟨h1, h2⟩, h3⟩
      refine ⟨h1, fun u hu hs => ?_⟩
      by_cases e : u = k
      · subst e
        rcases h3 with h3 | h3
        · rw [hs] at h3; exact absurd h3 (by decide)
        · exact h3
      · exact h2 u (by omega) hs
    · rintro ⟨h1, h2⟩
      refine ⟨⟨h1, fun u hu hs => h2 u (by omega) hs⟩, ?_⟩
      cases c : bt s k with
      | true => exact Or.inr (h2 k (by omega) c)
      | false => exact Or.inl rfl
def cd_un (t : Nat → Int32) (k : Nat) : Int32 := cd_fo (fun i => decide (¬ t i = 0)) (fun a i => a ||| cd_one i) 0 k
theorem cd_un_bt (t : Nat → Int32) (j : Nat) : ∀ k, k ≤ 9 → (bt (cd_un t k) j = true ↔ j < k ∧ ¬ t j = 0) := by
  intro k
  induction k with
  | zero =>
    intro _
    rw [show cd_un t 0 = 0 from rfl, b_0]
    exact ⟨fun h => absurd h (by decide), fun h => absurd h.1 (by omega)⟩
  | succ k ih =>
    intro hk
    by_cases c : t k = 0
    · rw [show cd_un t (k + 1) = cd_un t k from cd_foF (q := fun i => decide (¬ t i = 0)) (by simp [c]), ih (by omega)]
      constructor
      · rintro ⟨h1, h2⟩; exact ⟨by omega, h2⟩
      · rintro ⟨h1, h2⟩
        by_cases e : j = k
        · subst e; exact absurd c h2
        · exact ⟨by omega, h2⟩
    · rw [show cd_un t (k + 1) = cd_un t k ||| cd_one k from cd_foT (q := fun i => decide (¬ t i = 0)) (by simp [c]), cd_set (by omega), ih (by omega)]
      constructor
      · rintro (⟨h1, h2⟩ | h)
        · exact ⟨by omega, h2⟩
        · subst h; exact ⟨by omega, c⟩
      · rintro ⟨h1, h2⟩
        by_cases e : j = k
        · exact Or.inr e
        · exact Or.inl ⟨by omega, h2⟩
/-- the two states but for the worths: p X's present, n X's needs, t Y's there, m Y's needs -/
def cd_R (p : Int32) (n t m : Nat → Int32) : Prop :=
  (∀ i, i < 9 → (t i = 0 ∨ t i = 1)) ∧ (∀ i, bt p i = true ↔ i < 9 ∧ ¬ t i = 0) ∧ (∀ i, i < 9 → bt p i = true → m i = n i) ∧ (∀ i, i < 9 → bt p i = false → n i = 0) ∧ (∀ i, i < 9 → cd_S (n i) p)
def cd_W (w : Nat → Int32) : Prop := ∀ i, i < 9 → -50 ≤ (w i).toInt ∧ (w i).toInt ≤ 50
theorem cd_un_p {p : Int32} {n t m : Nat → Int32} (R : cd_R p n t m) : cd_un t 9 = p := by
  apply cd_extT
  intro i
  rw [cd_un_bt t i 9 (by omega), R.2.1 i]
theorem cd_ok_cl {p : Int32} {n t m : Nat → Int32} (R : cd_R p n t m) (s : Int32) : cd_ok m s (decide ((s &&& (p ^^^ (-1))) = 0)) 9 = cd_cl p n s := by
  obtain ⟨_, h2, h3, _, _⟩ := R
  apply Bool.eq_iff_iff.mpr
  rw [cd_ok_iff, cd_cl_iff, decide_eq_true_iff, cd_sub]
  constructor
  · rintro ⟨a, b⟩
    exact ⟨a, fun u hu hs => by rw [← h3 u hu (a u hs)]; exact b u hu hs⟩
  · rintro ⟨a, b⟩
    exact ⟨a, fun u hu hs => by rw [h3 u hu (a u hs)]; exact b u hu hs⟩
/-- which sets greatestWorth looks at -/
def cd_al (a b s : Int32) : Bool := decide ((a &&& (s ^^^ (-1))) = 0) && decide ((b &&& s) = 0)
def cd_q (p : Int32) (n : Nat → Int32) (a b : Int32) (i : Nat) : Bool := cd_al a b (nI i) && cd_cl p n (nI i)
def cd_G (p : Int32) (w n : Nat → Int32) (a b : Int32) : Int32 := cd_gm (cd_q p n a b) (fun i => cd_wo w (nI i) 9) 512
def cd_cw (p : Int32) (w n : Nat → Int32) (g : Int32) (i : Nat) : Bool := cd_cl p n (nI i) && decide (cd_wo w (nI i) 9 = g)
theorem cd_al_iff {a b s : Int32} : cd_al a b s = true ↔ cd_S a s ∧ (b &&& s) = 0 := by
  unfold cd_al
  rw [Bool.and_eq_true, decide_eq_true_iff, decide_eq_true_iff, cd_sub]
/-- a number that none has bars nothing -/
theorem cd_G_absent {p : Int32} {w n : Nat → Int32} {u : Nat} (hu : u < 32) (h : bt p u = false) : cd_G p w n 0 (cd_one u) = cd_G p w n 0 0 := by
  unfold cd_G cd_gm
  apply cd_fo_congr
  intro i _
  apply Bool.eq_iff_iff.mpr
  unfold cd_q
  rw [Bool.and_eq_true, Bool.and_eq_true, cd_al_iff, cd_al_iff, cd_cl_iff, cd_0and, cd_one0 hu]
  constructor
  · rintro ⟨⟨a, _⟩, c⟩
    exact ⟨⟨a, rfl⟩, c⟩
  · rintro ⟨⟨a, _⟩, c⟩
    refine ⟨⟨a, ?_⟩, c⟩
    cases d : bt (nI i) u with
    | false => rfl
    | true => rw [c.1 u d] at h; exact absurd h (by decide)
end
section
/-- X's rounds -/
def cd_gr (n : Nat → Int32) (s : Int32) : Nat → Int32
  | 0 => s
  | i + 1 => cd_gr n s i ||| cd_nb n (cd_gr n s i) 9
theorem cd_gr_up {n : Nat → Int32} {s : Int32} (i : Nat) : cd_S (cd_gr n s i) (cd_gr n s (i + 1)) := by
  intro j hj
  show bt (cd_gr n s i ||| cd_nb n (cd_gr n s i) 9) j = true
  rw [b_or, hj]; rfl
theorem cd_gr_s {n : Nat → Int32} {s : Int32} : ∀ i, cd_S s (cd_gr n s i) := by
  intro i
  induction i with
  | zero => exact fun j hj => hj
  | succ i ih => exact fun j hj => cd_gr_up i j (ih j hj)
theorem cd_gr_in {n : Nat → Int32} {s c : Int32} (hs : cd_S s c) (hc : ∀ u, u < 9 → bt c u = true → cd_S (n u) c) : ∀ i, cd_S (cd_gr n s i) c := by
  intro i
  induction i with
  | zero => exact hs
  | succ i ih =>
    intro j hj
    have hj2 : bt (cd_gr n s i ||| cd_nb n (cd_gr n s i) 9) j = true := hj
    rw [b_or, Bool.or_eq_true] at hj2
    rcases hj2 with h | h
    · exact ih j h
    · obtain ⟨u, hu, h1, h2⟩ := (cd_nb_bt n _ j 9).mp h
      exact hc u hu (ih u h1) j h2
def cd_ct (x : Int32) : Nat → Nat
  | 0 => 0
  | i + 1 => cd_ct x i + (if bt x i = true then 1 else 0)
theorem cd_ctT {x : Int32} {i : Nat} (h : bt x i = true) : cd_ct x (i + 1) = cd_ct x i + 1 := by
  show cd_ct x i + (if bt x i = true then 1 else 0) = _
  rw [if_pos h]
theorem cd_ctF {x : Int32} {i : Nat} (h : ¬ bt x i = true) : cd_ct x (i + 1) = cd_ct x i := by
  show cd_ct x i + (if bt x i = true then 1 else 0) = _
  rw [if_neg h]; rfl
theorem cd_ct_full {x : Int32} : ∀ k, cd_ct x k ≤ k ∧ (k ≤ cd_ct x k → ∀ j, j < k → bt x j = true) := by
  intro k
  induction k with
  | zero => exact ⟨Nat.le_refl 0, fun _ j hj => absurd hj (Nat.not_lt_zero j)⟩
  | succ k ih =>
    obtain ⟨h1, h2⟩ := ih
    by_cases c : bt x k = true
    · rw [cd_ctT c]
      refine ⟨by omega, fun h j hj => ?_⟩
      by_cases e : j = k
      · rw [e]; exact c
      · exact h2 (by omega) j (by omega)
    · rw [cd_ctF c]
      exact ⟨by omega, fun h => by omega⟩
theorem cd_ct_mono {x y : Int32} (h : cd_S x y) : ∀ k, cd_ct x k ≤ cd_ct y k ∧ (∀ j, j < k → bt y j = true → bt x j = false → cd_ct x k < cd_ct y k) := by
  intro k
  induction k with
  | zero => exact ⟨Nat.le_refl 0, fun j hj => absurd hj (Nat.not_lt_zero j)⟩
  | succ k ih =>
    obtain ⟨h1, h2⟩ := ih
    by_cases cx : bt x k = true
    · rw [cd_ctT cx, cd_ctT (h k cx)]
      refine ⟨by omega, fun j hj hy hx => ?_⟩
      by_cases e : j = k
      · subst e; rw [cx] at hx; exact absurd hx (by decide)
      · have := h2 j (by omega) hy hx
        omega
    · rw [cd_ctF cx]
      by_cases cy : bt y k = true
      · rw [cd_ctT cy]
        exact ⟨by omega, fun _ _ _ _ => by omega⟩
      · rw [cd_ctF cy]
        refine ⟨h1, fun j hj hy hx => ?_⟩
        by_cases e : j = k
        · subst e; exact absurd hy cy
        · exact h2 j (by omega) hy hx
theorem cd_gr_ct {n : Nat → Int32} {s p : Int32} (hp : ∀ i, bt p i = true → i < 9) (hn : ∀ i, i < 9 → cd_S (n i) p) : ∀ i, cd_S (cd_nb n (cd_gr n s i) 9) (cd_gr n s i) ∨ i ≤ cd_ct (cd_gr n s i) 9 := by
  intro i
  induction i with
  | zero => exact Or.inr (Nat.zero_le _)
  | succ i ih =>
    by_cases fx : cd_S (cd_nb n (cd_gr n s i) 9) (cd_gr n s i)
    · have e : cd_gr n s (i + 1) = cd_gr n s i := by
        apply cd_extT
        intro j
        show bt (cd_gr n s i ||| cd_nb n (cd_gr n s i) 9) j = true ↔ _
        rw [b_or, Bool.or_eq_true]
        exact ⟨fun h => h.elim id (fx j), Or.inl⟩
      rw [e]
      exact Or.inl fx
    · have hi : i ≤ cd_ct (cd_gr n s i) 9 := ih.resolve_left fx
      have : ∃ j, bt (cd_nb n (cd_gr n s i) 9) j = true ∧ ¬ bt (cd_gr n s i) j = true := by
        apply Classical.byContradiction
        intro no
        apply fx
        intro j hj
        apply Classical.byContradiction
        intro nj
        exact no ⟨j, hj, nj⟩
      obtain ⟨j, hj, nj⟩ := this
      obtain ⟨u, hu, _, h2⟩ := (cd_nb_bt n _ j 9).mp hj
      have hj9 : j < 9 := hp j (hn u hu j h2)
      have hy : bt (cd_gr n s (i + 1)) j = true := by
        show bt (cd_gr n s i ||| cd_nb n (cd_gr n s i) 9) j = true
        rw [b_or, hj, Bool.or_true]
      have := (cd_ct_mono (cd_gr_up (n := n) (s := s) i) 9).2 j hj9 hy (cd_nf nj)
      exact Or.inr (by omega)
/-- nine rounds are enough -/
theorem cd_gr_cl {n : Nat → Int32} {s p : Int32} (hp : ∀ i, bt p i = true → i < 9) (hn : ∀ i, i < 9 → cd_S (n i) p) (hs : cd_S s p) : cd_cl p n (cd_gr n s 9) = true := by
  have hin : cd_S (cd_gr n s 9) p := cd_gr_in hs (fun u hu _ => hn u hu) 9
  rw [cd_cl_iff]
  refine ⟨hin, fun u hu hb j hj => ?_⟩
  rcases cd_gr_ct (s := s) hp hn 9 with h | h
  · exact h j ((cd_nb_bt n _ j 9).mpr ⟨u, hu, hb, hj⟩)
  · exact (cd_ct_full 9).2 h j (hp j (hn u hu j hj))
/-- Y's way down from 511 -/
def cd_fi (q : Nat → Bool) : Nat → Int32 → Int32
  | 0, l => l
  | k + 1, l => cd_fi q k (if q k = true then nI k else l)
theorem cd_fi_no {q : Nat → Bool} : ∀ k l, (∀ j, j < k → ¬ q j = true) → cd_fi q k l = l := by
  intro k
  induction k with
  | zero => intro l _; rfl
  | succ k ih =>
    intro l h
    show cd_fi q k (if q k = true then nI k else l) = l
    rw [if_neg (h k (by omega))]
    exact ih l (fun j hj => h j (by omega))
theorem cd_fi_at {q : Nat → Bool} {r : Nat} (hr : q r = true) (hm : ∀ j, j < r → ¬ q j = true) : ∀ k l, r < k → cd_fi q k l = nI r := by
  intro k
  induction k with
  | zero => intro l h; omega
  | succ k ih =>
    intro l h
    show cd_fi q k (if q k = true then nI k else l) = nI r
    by_cases e : r = k
    · subst e
      rw [if_pos hr]
      exact cd_fi_no r (nI r) hm
    · exact ih _ (by omega)
/-- what Y's closure asks of a set -/
def cd_cq (p : Int32) (n : Nat → Int32) (s : Int32) (i : Nat) : Bool := cd_cl p n (nI i) && decide ((s &&& (nI i ^^^ (-1))) = 0)
theorem cd_closure {n : Nat → Int32} {s p : Int32} (hp : ∀ i, bt p i = true → i < 9) (hn : ∀ i, i < 9 → cd_S (n i) p) (hs : cd_S s p) : cd_fi (cd_cq p n s) 512 0 = cd_gr n s 9 := by
  have hc := cd_gr_cl hp hn hs
  have hin : cd_S (cd_gr n s 9) p := cd_gr_in hs (fun u hu _ => hn u hu) 9
  obtain ⟨r, hr, er⟩ := cd_small (x := cd_gr n s 9) (fun i hi => hp i (hin i hi))
  rw [er]
  refine cd_fi_at ?_ ?_ 512 0 hr
  · unfold cd_cq
    rw [← er, hc, Bool.true_and, decide_eq_true_iff, cd_sub]
    exact cd_gr_s 9
  · intro j hj hq
    unfold cd_cq at hq
    rw [Bool.and_eq_true, decide_eq_true_iff, cd_sub, cd_cl_iff] at hq
    have h := cd_gr_in hq.2 hq.1.2 9
    rw [er] at h
    have := cd_mono hr h
    omega
end
section
def cd_woI (w : Nat → Int32) (s : Int32) : Nat → Int
  | 0 => 0
  | i + 1 => if bt s i = true then cd_woI w s i + (w i).toInt else cd_woI w s i
theorem cd_woIT {w : Nat → Int32} {s : Int32} {i : Nat} (h : bt s i = true) : cd_woI w s (i + 1) = cd_woI w s i + (w i).toInt := if_pos h
theorem cd_woIF {w : Nat → Int32} {s : Int32} {i : Nat} (h : ¬ bt s i = true) : cd_woI w s (i + 1) = cd_woI w s i := if_neg h
theorem cd_addI {x y : Int32} (h1 : -2000000 ≤ x.toInt + y.toInt) (h2 : x.toInt + y.toInt ≤ 2000000) : (x + y).toInt = x.toInt + y.toInt := by
  rw [Int32.toInt_add]
  exact Int.bmod_eq_of_le (by omega) (by omega)
theorem cd_subI {x y : Int32} (h1 : -2000000 ≤ x.toInt - y.toInt) (h2 : x.toInt - y.toInt ≤ 2000000) : (x - y).toInt = x.toInt - y.toInt := by
  rw [Int32.toInt_sub]
  exact Int.bmod_eq_of_le (by omega) (by omega)
theorem cd_wo_I {w : Nat → Int32} (hw : cd_W w) (s : Int32) : ∀ k : Nat, k ≤ 9 → (cd_wo w s k).toInt = cd_woI w s k ∧ -50 * (k : Int) ≤ cd_woI w s k ∧ cd_woI w s k ≤ 50 * (k : Int) := by
  intro k
  induction k with
  | zero => intro _; exact ⟨(by decide : (0 : Int32).toInt = 0), (by decide : -50 * ((0 : Nat) : Int) ≤ 0), (by decide : (0 : Int) ≤ 50 * ((0 : Nat) : Int))⟩
  | succ k ih =>
    intro hk
    obtain ⟨e, h1, h2⟩ := ih (by omega)
    obtain ⟨w1, w2⟩ := hw k (by omega)
    by_cases c : bt s k = true
    · rw [show cd_wo w s (k + 1) = cd_wo w s k + w k from cd_foT (q := fun i => bt s i) c, cd_woIT c]
      rw [cd_addI (by omega) (by omega), e]
      exact ⟨rfl, by omega, by omega⟩
    · rw [show cd_wo w s (k + 1) = cd_wo w s k from cd_foF (q := fun i => bt s i) c, cd_woIF c]
      exact ⟨e, by omega, by omega⟩
theorem cd_woI_upd {w : Nat → Int32} {s x : Int32} {u : Nat} : ∀ k : Nat, cd_woI (upd w u x) s k = cd_woI w s k + (if u < k then (if bt s u = true then x.toInt - (w u).toInt else 0) else 0) := by
  intro k
  induction k with
  | zero =>
    rw [if_neg (Nat.not_lt_zero u)]
    rfl
  | succ k ih =>
    by_cases c : bt s k = true
    · rw [cd_woIT c, cd_woIT c, ih]
      by_cases e : u = k
      · subst e
        rw [if_neg (Nat.lt_irrefl _), if_pos (Nat.lt_succ_self _), if_pos c, pk_us]
        omega
      · rw [pk_un (fun h => e h.symm)]
        by_cases l : u < k
        · rw [if_pos l, if_pos (show u < k + 1 by omega)]
          omega
        · rw [if_neg l, if_neg (show ¬ u < k + 1 by omega)]
          omega
    · rw [cd_woIF c, cd_woIF c, ih]
      by_cases e : u = k
      · subst e
        rw [if_neg (Nat.lt_irrefl _), if_pos (Nat.lt_succ_self _), if_neg c]
      · by_cases l : u < k
        · rw [if_pos l, if_pos (show u < k + 1 by omega)]
        · rw [if_neg l, if_neg (show ¬ u < k + 1 by omega)]
def cd_Mx (q : Nat → Bool) (f : Nat → Int) (k : Nat) (M : Int) : Prop := (∃ j, j < k ∧ q j = true ∧ f j = M) ∧ ∀ j, j < k → q j = true → f j ≤ M
theorem cd_Mx_one {q : Nat → Bool} {f : Nat → Int} {k : Nat} {M M' : Int} (h : cd_Mx q f k M) (h' : cd_Mx q f k M') : M = M' := by
  obtain ⟨⟨j, hj, qj, e⟩, a⟩ := h
  obtain ⟨⟨j', hj', qj', e'⟩, a'⟩ := h'
  have := a j' hj' qj'
  have := a' j hj qj
  omega
theorem cd_Mx_add {q : Nat → Bool} {f f' : Nat → Int} {k : Nat} {M d : Int} (h : cd_Mx q f k M) (e : ∀ j, j < k → q j = true → f' j = f j + d) : cd_Mx q f' k (M + d) := by
  obtain ⟨⟨j, hj, qj, ej⟩, a⟩ := h
  refine ⟨⟨j, hj, qj, by rw [e j hj qj, ej]⟩, fun i hi qi => ?_⟩
  have := a i hi qi
  rw [e i hi qi]
  omega
theorem cd_Mx_or {q q1 q2 : Nat → Bool} {f : Nat → Int} {k : Nat} {A B M : Int} (h1 : cd_Mx q1 f k A) (h2 : cd_Mx q2 f k B) (h : cd_Mx q f k M) (e : ∀ j, j < k → (q j = true ↔ q1 j = true ∨ q2 j = true)) : A ≤ M ∧ B ≤ M ∧ (M = A ∨ M = B) := by
  obtain ⟨⟨j1, hj1, qj1, e1⟩, a1⟩ := h1
  obtain ⟨⟨j2, hj2, qj2, e2⟩, a2⟩ := h2
  obtain ⟨⟨j, hj, qj, ej⟩, a⟩ := h
  have p1 := a j1 hj1 ((e j1 hj1).mpr (Or.inl qj1))
  have p2 := a j2 hj2 ((e j2 hj2).mpr (Or.inr qj2))
  refine ⟨by omega, by omega, ?_⟩
  rcases (e j hj).mp qj with h | h
  · have := a1 j hj h
    exact Or.inl (by omega)
  · have := a2 j hj h
    exact Or.inr (by omega)
theorem cd_gm_Mx {q : Nat → Bool} {f : Nat → Int32} : ∀ k, (∀ j, j < k → q j = true → -100000 < (f j).toInt) → ((∀ j, j < k → ¬ q j = true) ∧ cd_gm q f k = -100000) ∨ cd_Mx q (fun i => (f i).toInt) k (cd_gm q f k).toInt := by
  intro k
  induction k with
  | zero => intro _; exact Or.inl ⟨fun j hj => by omega, rfl⟩
  | succ k ih =>
    intro hf
    have ih := ih (fun j hj => hf j (by omega))
    by_cases c : q k = true
    · have e : cd_gm q f (k + 1) = if cd_gm q f k < f k then f k else cd_gm q f k := cd_foT (q := q) c
      refine Or.inr ?_
      rcases ih with ⟨no, e0⟩ | ⟨⟨j, hj, qj, ej⟩, a⟩
      · have lt : cd_gm q f k < f k := by
          rw [e0, Int32.lt_iff_toInt_lt, show (-100000 : Int32).toInt = -100000 from by decide +kernel]
          exact hf k (by omega) c
        rw [e, if_pos lt]
        refine ⟨⟨k, by omega, c, rfl⟩, fun j hj qj => ?_⟩
        by_cases ek : j = k
        · rw [ek]; exact Int.le_refl _
        · exact absurd qj (no j (by omega))
      · by_cases lt : cd_gm q f k < f k
        · rw [e, if_pos lt]
          rw [Int32.lt_iff_toInt_lt] at lt
          refine ⟨⟨k, by omega, c, rfl⟩, fun i hi qi => ?_⟩
          by_cases ek : i = k
          · rw [ek]; exact Int.le_refl _
          · have h : (f i).toInt ≤ (cd_gm q f k).toInt := a i (by omega) qi
            show (f i).toInt ≤ (f k).toInt
            omega
        · rw [e, if_neg lt]
          rw [Int32.lt_iff_toInt_lt] at lt
          refine ⟨⟨j, by omega, qj, ej⟩, fun i hi qi => ?_⟩
          by_cases ek : i = k
          · subst ek
            show (f i).toInt ≤ (cd_gm q f i).toInt
            omega
          · exact a i (by omega) qi
    · have e : cd_gm q f (k + 1) = cd_gm q f k := cd_foF (q := q) c
      rw [e]
      rcases ih with ⟨no, e0⟩ | ⟨⟨j, hj, qj, ej⟩, a⟩
      · refine Or.inl ⟨fun j hj => ?_, e0⟩
        by_cases ek : j = k
        · rw [ek]; exact c
        · exact no j (by omega)
      · refine Or.inr ⟨⟨j, by omega, qj, ej⟩, fun i hi qi => ?_⟩
        by_cases ek : i = k
        · subst ek; exact absurd qi c
        · exact a i (by omega) qi
theorem cd_G_Mx {p : Int32} {w n : Nat → Int32} {a b : Int32} (hw : cd_W w) (h : ∃ j, j < 512 ∧ cd_q p n a b j = true) : cd_Mx (cd_q p n a b) (fun i => cd_woI w (nI i) 9) 512 (cd_G p w n a b).toInt ∧ -450 ≤ (cd_G p w n a b).toInt ∧ (cd_G p w n a b).toInt ≤ 450 := by
  have hf : ∀ j, j < 512 → cd_q p n a b j = true → -100000 < (cd_wo w (nI j) 9).toInt := by
    intro j _ _
    obtain ⟨e, h1, h2⟩ := cd_wo_I hw (nI j) 9 (by omega)
    rw [e]; omega
  rcases cd_gm_Mx (q := cd_q p n a b) (f := fun i => cd_wo w (nI i) 9) 512 hf with ⟨no, _⟩ | mx
  · obtain ⟨j, hj, qj⟩ := h
    exact absurd qj (no j hj)
  · have ef : (fun i => (cd_wo w (nI i) 9).toInt) = (fun i => cd_woI w (nI i) 9) := by
      funext i
      exact (cd_wo_I hw (nI i) 9 (by omega)).1
    have mx' : cd_Mx (cd_q p n a b) (fun i => (cd_wo w (nI i) 9).toInt) 512 (cd_G p w n a b).toInt := mx
    rw [ef] at mx'
    refine ⟨mx', ?_⟩
    obtain ⟨⟨j, hj, qj, ej⟩, _⟩ := mx'
    obtain ⟨_, h1, h2⟩ := cd_wo_I hw (nI j) 9 (by omega)
    rw [← ej]
    show -450 ≤ cd_woI w (nI j) 9 ∧ cd_woI w (nI j) 9 ≤ 450
    omega
theorem cd_W_upd {w : Nat → Int32} (hw : cd_W w) {u : Nat} {x : Int32} (h1 : -50 ≤ x.toInt) (h2 : x.toInt ≤ 50) : cd_W (upd w u x) := by
  intro i hi
  by_cases e : i = u
  · rw [e, pk_us]; exact ⟨h1, h2⟩
  · rw [pk_un e]; exact hw i hi
/-- there is always a closed set with u, and one without -/
theorem cd_q_with {p : Int32} {n t m : Nat → Int32} (R : cd_R p n t m) {u : Nat} (hu : u < 9) (hp : bt p u = true) : ∃ j, j < 512 ∧ cd_q p n (cd_one u) 0 j = true := by
  obtain ⟨_, h2, _, _, h5⟩ := R
  obtain ⟨j, hj, e⟩ := cd_small (x := p) (fun i hi => ((h2 i).mp hi).1)
  refine ⟨j, hj, ?_⟩
  unfold cd_q
  rw [Bool.and_eq_true, cd_al_iff, cd_cl_iff, cd_one1 (by omega), ← e, cd_0and]
  exact ⟨⟨hp, rfl⟩, fun i hi => hi, fun i hi _ => h5 i hi⟩
theorem cd_S0 (x : Int32) : cd_S 0 x := by
  intro j hj
  rw [b_0] at hj
  exact absurd hj (by decide)
theorem cd_q_without {p : Int32} {n : Nat → Int32} {b : Int32} : ∃ j, j < 512 ∧ cd_q p n 0 b j = true := by
  refine ⟨0, by omega, ?_⟩
  unfold cd_q
  rw [Bool.and_eq_true, cd_al_iff, cd_cl_iff, nI_0, cd_and0]
  refine ⟨⟨cd_S0 0, rfl⟩, cd_S0 p, fun i _ hi => ?_⟩
  rw [b_0] at hi
  exact absurd hi (by decide)
theorem cd_q_split {p : Int32} {n : Nat → Int32} {u : Nat} (hu : u < 9) (j : Nat) : cd_q p n 0 0 j = true ↔ cd_q p n (cd_one u) 0 j = true ∨ cd_q p n 0 (cd_one u) j = true := by
  unfold cd_q
  rw [Bool.and_eq_true, Bool.and_eq_true, Bool.and_eq_true, cd_al_iff, cd_al_iff, cd_al_iff, cd_0and, cd_one1 (by omega), cd_one0 (by omega)]
  constructor
  · rintro ⟨⟨a, _⟩, c⟩
    cases d : bt (nI j) u with
    | true => exact Or.inl ⟨⟨rfl, rfl⟩, c⟩
    | false => exact Or.inr ⟨⟨a, rfl⟩, c⟩
  · rintro (⟨_, c⟩ | ⟨⟨a, _⟩, c⟩)
    · exact ⟨⟨cd_S0 _, rfl⟩, c⟩
    · exact ⟨⟨a, rfl⟩, c⟩
theorem cd_th {p : Int32} {w n t m : Nat → Int32} (R : cd_R p n t m) (hw : cd_W w) {u : Nat} (hu : u < 9) (hp : bt p u = true) (x : Int32) (h1 : -50 ≤ x.toInt) (h2 : x.toInt ≤ 50) : cd_G p (upd w u x) n (cd_one u) 0 = cd_G p (upd w u x) n 0 0 ↔ (cd_G p w n 0 (cd_one u)).toInt - ((cd_G p w n (cd_one u) 0).toInt - (w u).toInt) ≤ x.toInt := by
  have hw' := cd_W_upd hw (u := u) h1 h2
  obtain ⟨mA, _, _⟩ := cd_G_Mx hw (cd_q_with R hu hp)
  obtain ⟨mB, _, _⟩ := cd_G_Mx hw (cd_q_without (p := p) (n := n) (b := cd_one u))
  obtain ⟨mA', _, _⟩ := cd_G_Mx hw' (cd_q_with R hu hp)
  obtain ⟨mB', _, _⟩ := cd_G_Mx hw' (cd_q_without (p := p) (n := n) (b := cd_one u))
  obtain ⟨mC', _, _⟩ := cd_G_Mx hw' (cd_q_without (p := p) (n := n) (b := 0))
  have eA := cd_Mx_one mA' (cd_Mx_add (d := x.toInt - (w u).toInt) (f' := fun i => cd_woI (upd w u x) (nI i) 9) mA (by
    intro j _ qj
    unfold cd_q at qj
    rw [Bool.and_eq_true, cd_al_iff, cd_one1 (by omega)] at qj
    show cd_woI (upd w u x) (nI j) 9 = cd_woI w (nI j) 9 + _
    rw [cd_woI_upd, if_pos hu, if_pos qj.1.1]))
  have eB := cd_Mx_one mB' (cd_Mx_add (d := 0) (f' := fun i => cd_woI (upd w u x) (nI i) 9) mB (by
    intro j _ qj
    unfold cd_q at qj
    rw [Bool.and_eq_true, cd_al_iff, cd_one0 (by omega)] at qj
    show cd_woI (upd w u x) (nI j) 9 = cd_woI w (nI j) 9 + 0
    rw [cd_woI_upd, if_pos hu, if_neg (cd_fn qj.1.2)]))
  obtain ⟨l1, l2, l3⟩ := cd_Mx_or mA' mB' mC' (fun j _ => cd_q_split hu j)
  rw [← Int32.toInt_inj]
  omega
end
section
def cd_bi (b : Bool) : Int32 := if b = true then 1 else 0
theorem cd_biT {b : Bool} (h : b = true) : cd_bi b = 1 := if_pos h
theorem cd_biF {b : Bool} (h : ¬ b = true) : cd_bi b = 0 := if_neg h
theorem cd_bi0 {b : Bool} : cd_bi b = 0 ↔ b = false := by
  cases b with
  | true => exact ⟨fun h => absurd h (by decide), fun h => absurd h (by decide)⟩
  | false => exact ⟨fun _ => rfl, fun _ => rfl⟩
theorem cd_bi1 {b : Bool} : ¬ cd_bi b = 0 ↔ b = true := by
  cases b with
  | true => exact ⟨fun _ => rfl, fun _ => by decide⟩
  | false => exact ⟨fun h => absurd rfl h, fun h => absurd h (by decide)⟩
theorem cd_bin (b : Bool) : narrow .boolean (.int (cd_bi b)) = .int (cd_bi b) := by
  cases b <;> rfl
/-- a counter from 0 to e, and a state of any kind -/
theorem cd_loopS {σ : Type} (W : Nat → Int32 → σ → Prop) (A : Nat → σ) (e : Nat) (s0 : σ) (h0 : A 0 = s0) (hx : ∀ n, W (n + 1) (nI e) (A e)) (hs : ∀ n i, i < e → (∀ c x, c = nI i + 1 → x = A (i + 1) → W n c x) → W (n + 1) (nI i) (A i)) : ∃ n, W n 0 s0 := by
  have h : ∀ d i, i + d = e → W (d + 1) (nI i) (A i) := by
    intro d
    induction d with
    | zero =>
      intro i hi
      have e1 : i = e := by omega
      rw [e1]
      exact hx 0
    | succ d ih =>
      intro i hi
      refine hs (d + 1) i (by omega) (fun c x hc hx => ?_)
      rw [hc, hx, nI_1]
      exact ih (i + 1) (by omega)
  have h1 := h e 0 (by omega)
  rw [nI_0, h0] at h1
  exact ⟨e + 1, h1⟩
theorem cd_loop0 (W : Nat → Int32 → Prop) (e : Nat) (hx : ∀ n, W (n + 1) (nI e)) (hs : ∀ n i, i < e → (∀ c, c = nI i + 1 → W n c) → W (n + 1) (nI i)) : ∃ n, W n 0 := by
  obtain ⟨n, h⟩ := cd_loopS (fun n c (_ : Nat) => W n c) (fun _ => 0) e 0 rfl hx (fun n i hi ih => hs n i hi (fun c hc => ih c 0 hc rfl))
  exact ⟨n, h⟩
/-- the first place that is free, or none -/
theorem cd_first (p : Int32) : ∀ e, (∃ k, k < e ∧ bt p k = false ∧ ∀ j, j < k → bt p j = true) ∨ ∀ j, j < e → bt p j = true := by
  intro e
  induction e with
  | zero => exact Or.inr (fun j hj => absurd hj (Nat.not_lt_zero j))
  | succ e ih =>
    rcases ih with ⟨k, hk, h⟩ | h
    · exact Or.inl ⟨k, by omega, h⟩
    · cases c : bt p e with
      | true =>
        refine Or.inr (fun j hj => ?_)
        by_cases e1 : j = e
        · rw [e1]; exact c
        · exact h j (by omega)
      | false => exact Or.inl ⟨e, by omega, c, h⟩
theorem cd_R_0 : cd_R 0 (fun _ => 0) (fun _ => 0) (fun _ => 0) := by
  refine ⟨fun i _ => Or.inl rfl, fun i => ?_, fun i _ _ => rfl, fun i _ _ => rfl, fun i _ j hj => ?_⟩
  · rw [b_0]
    exact ⟨fun h => absurd h (by decide), fun h => absurd rfl h.2⟩
  · exact hj
theorem cd_W_0 : cd_W (fun _ => 0) := by
  intro i _
  exact ⟨(by decide : -50 ≤ (0 : Int32).toInt), (by decide : (0 : Int32).toInt ≤ 50)⟩
theorem cd_R_add {p : Int32} {n t m : Nat → Int32} (R : cd_R p n t m) {u : Nat} (hu : u < 9) (hp : bt p u = false) : cd_R (p ||| cd_one u) n (upd t u 1) (upd m u 0) := by
  obtain ⟨h1, h2, h3, h4, h5⟩ := R
  refine ⟨fun i hi => ?_, fun i => ?_, fun i hi hb => ?_, fun i hi hb => ?_, fun i hi j hj => ?_⟩
  · by_cases e : i = u
    · rw [e, pk_us]; exact Or.inr rfl
    · rw [pk_un e]; exact h1 i hi
  · rw [cd_set (by omega), h2 i]
    by_cases e : i = u
    · rw [e, pk_us]
      exact ⟨fun _ => ⟨hu, by decide⟩, fun _ => Or.inr rfl⟩
    · rw [pk_un e]
      exact ⟨fun h => h.elim id (fun h => absurd h e), Or.inl⟩
  · by_cases e : i = u
    · rw [e, pk_us, h4 u hu hp]
    · rw [pk_un e]
      rw [cd_set (by omega)] at hb
      exact h3 i hi (hb.elim id (fun h => absurd h e))
  · apply h4 i hi
    rw [b_or, Bool.or_eq_false_iff] at hb
    exact hb.1
  · rw [cd_set (by omega)]
    exact Or.inl (h5 i hi j hj)
theorem cd_R_need {p : Int32} {n t m : Nat → Int32} (R : cd_R p n t m) {u : Nat} (hu : u < 9) (hp : bt p u = true) {x y : Int32} (hx : cd_S x p) (hy : y = x) : cd_R p (upd n u x) t (upd m u y) := by
  obtain ⟨h1, h2, h3, h4, h5⟩ := R
  subst hy
  refine ⟨h1, h2, fun i hi hb => ?_, fun i hi hb => ?_, fun i hi => ?_⟩
  · by_cases e : i = u
    · rw [e, pk_us, pk_us]
    · rw [pk_un e, pk_un e]; exact h3 i hi hb
  · by_cases e : i = u
    · rw [e, hp] at hb; exact absurd hb (by decide)
    · rw [pk_un e]; exact h4 i hi hb
  · by_cases e : i = u
    · rw [e, pk_us]; exact hx
    · rw [pk_un e]; exact h5 i hi
theorem cd_R_on {p : Int32} {n t m : Nat → Int32} (R : cd_R p n t m) {u v : Nat} (hu : u < 9) (hp : bt p u = true) (hv : v < 9) (hq : bt p v = true) : cd_R p (upd n u (n u ||| cd_one v)) t (upd m u (m u ||| cd_one v)) := by
  refine cd_R_need R hu hp (fun j hj => ?_) (by rw [R.2.2.1 u hu hp])
  rw [cd_set (by omega)] at hj
  rcases hj with h | h
  · exact R.2.2.2.2 u hu j h
  · rw [h]; exact hq
theorem cd_R_off {p : Int32} {n t m : Nat → Int32} (R : cd_R p n t m) {u v : Nat} (hu : u < 9) (hp : bt p u = true) (hv : v < 9) : cd_R p (upd n u (n u &&& (cd_one v ^^^ (-1)))) t (upd m u (m u &&& (cd_one v ^^^ (-1)))) := by
  refine cd_R_need R hu hp (fun j hj => ?_) (by rw [R.2.2.1 u hu hp])
  rw [cd_clr (by omega)] at hj
  exact R.2.2.2.2 u hu j hj.1
/-- the mask c over the first i places -/
def cd_ms (a : Nat → Int32) (c : Int32) (i : Nat) : Nat → Int32 := fun j => if j < i then a j &&& c else a j
theorem cd_ms_0 (a : Nat → Int32) (c : Int32) : cd_ms a c 0 = a := by
  funext j
  exact if_neg (Nat.not_lt_zero j)
theorem cd_ms_at (a : Nat → Int32) (c : Int32) (i : Nat) : cd_ms a c i i = a i := if_neg (Nat.lt_irrefl i)
theorem cd_ms_in {a : Nat → Int32} {c : Int32} {i j : Nat} (h : j < i) : cd_ms a c i j = a j &&& c := if_pos h
theorem cd_ms_s (a : Nat → Int32) (c : Int32) (i : Nat) : upd (cd_ms a c i) i (a i &&& c) = cd_ms a c (i + 1) := by
  funext j
  by_cases e : j = i
  · rw [e, pk_us, cd_ms_in (Nat.lt_succ_self i)]
  · rw [pk_un e]
    unfold cd_ms
    by_cases l : j < i
    · rw [if_pos l, if_pos (show j < i + 1 by omega)]
    · rw [if_neg l, if_neg (show ¬ j < i + 1 by omega)]
theorem cd_R_rem {p : Int32} {n t m : Nat → Int32} (R : cd_R p n t m) {u : Nat} (hu : u < 9) : cd_R (p &&& (cd_one u ^^^ (-1))) (cd_ms (upd n u 0) (cd_one u ^^^ (-1)) 9) (upd t u 0) (cd_ms m (cd_one u ^^^ (-1)) 9) := by
  obtain ⟨h1, h2, h3, h4, h5⟩ := R
  have hb : ∀ i, bt (p &&& (cd_one u ^^^ (-1))) i = true ↔ bt p i = true ∧ i ≠ u := fun i => cd_clr (by omega) p i
  refine ⟨fun i hi => ?_, fun i => ?_, fun i hi h => ?_, fun i hi h => ?_, fun i hi j hj => ?_⟩
  · by_cases e : i = u
    · rw [e, pk_us]; exact Or.inl rfl
    · rw [pk_un e]; exact h1 i hi
  · rw [hb, h2 i]
    by_cases e : i = u
    · rw [e, pk_us]
      exact ⟨fun h => absurd rfl h.2, fun h => absurd rfl h.2⟩
    · rw [pk_un e]
      exact ⟨fun h => h.1, fun h => ⟨h, e⟩⟩
  · rw [hb] at h
    rw [cd_ms_in hi, cd_ms_in hi, pk_un h.2, h3 i hi h.1]
  · rw [cd_ms_in hi]
    by_cases e : i = u
    · rw [e, pk_us, cd_0and]
    · rw [pk_un e, h4 i hi ?_, cd_0and]
      apply cd_nf
      intro c
      exact cd_fn h ((hb i).mpr ⟨c, e⟩)
  · rw [cd_ms_in hi, cd_clr (by omega)] at hj
    rw [hb]
    refine ⟨?_, hj.2⟩
    by_cases e : i = u
    · rw [e, pk_us, b_0] at hj; exact absurd hj.1 (by decide)
    · rw [pk_un e] at hj; exact h5 i hi j hj.1
theorem cd_back {a : Nat → Int32} {u : Nat} {x : Int32} : upd (upd a u x) u (a u) = a := by
  funext j
  by_cases e : j = u
  · rw [e, pk_us]
  · rw [pk_un e, pk_un e]
end
section
theorem cx_9f {i : Nat} (h : i < 9) : ¬ (9 : Int32) ≤ nI i := nI_ge (b := 9) h (by decide)
theorem cx_512f {i : Nat} (h : i < 512) : ¬ (512 : Int32) ≤ nI i := nI_ge (b := 512) h (by decide)
theorem cx_9t : (9 : Int32) ≤ nI 9 := by decide
theorem cx_512t : (512 : Int32) ≤ nI 512 := by decide
theorem cx_10 : ¬ (1 : Int32) = 0 := by decide
theorem cx_cp {i : Nat} (h : i < 9) : (nI i).toNatClampNeg = i := nI_clamp (by omega)
theorem cx_in {i : Nat} (h : i < 9) : vp_in (nI i) 9 := vp_in_nI h (by omega)
theorem cx_isIn {post : Int32 → Prop} {k : Nat} {s : Int32} (hk : k < 32) (h : post (cd_bi (bt s k))) : wpX_isIn post (nI k) s := by
  by_cases c : bt s k = true
  · rw [cd_biT c] at h
    exact br_t ((cd_bit1 s hk).mpr c) h
  · rw [cd_biF c] at h
    exact br_f (fun e => c ((cd_bit1 s hk).mp e)) h
theorem cx_nb {post : Int32 → Prop} {p : Int32} {w n : Nat → Int32} {s : Int32} (h : post (cd_nb n s 9)) : wpX_neededBy post (p, w, n) s := by
  refine cd_loopS (fun f c a => wX_neededBy_4 post s p w n f a c) (fun i => cd_nb n s i) 9 0 rfl (fun f => br_t cx_9t h) (fun f i hi ih => ?_)
  refine br_f (cx_9f hi) (cx_isIn (by omega) ?_)
  by_cases c : bt s i = true
  · rw [cd_biT c]
    have e : cd_nb n s i ||| n (nI i).toNatClampNeg = cd_nb n s (i + 1) := by
      rw [cx_cp hi]
      exact (cd_foT (q := fun i => bt s i) (g := fun a i => a ||| n i) c).symm
    exact br_f cx_10 ⟨cx_in hi, fun a ea c ec => ih c a ec (ea.trans e)⟩
  · rw [cd_biF c]
    have e : cd_nb n s i = cd_nb n s (i + 1) := (cd_foF (q := fun i => bt s i) c).symm
    exact br_t rfl (fun c ec => ih c _ ec e)
theorem cx_wo {post : Int32 → Prop} {p : Int32} {w n : Nat → Int32} {s : Int32} (h : post (cd_wo w s 9)) : wpX_worthOf post (p, w, n) s := by
  refine cd_loopS (fun f c a => wX_worthOf_4 post s p w n f a c) (fun i => cd_wo w s i) 9 0 rfl (fun f => br_t cx_9t h) (fun f i hi ih => ?_)
  refine br_f (cx_9f hi) (cx_isIn (by omega) ?_)
  by_cases c : bt s i = true
  · rw [cd_biT c]
    have e : cd_wo w s i + w (nI i).toNatClampNeg = cd_wo w s (i + 1) := by
      rw [cx_cp hi]
      exact (cd_foT (q := fun i => bt s i) (g := fun a i => a + w i) c).symm
    exact br_f cx_10 ⟨cx_in hi, fun a ea c ec => ih c a ec (ea.trans e)⟩
  · rw [cd_biF c]
    have e : cd_wo w s i = cd_wo w s (i + 1) := (cd_foF (q := fun i => bt s i) c).symm
    exact br_t rfl (fun c ec => ih c _ ec e)
theorem cx_closed {post : Int32 → Prop} {p : Int32} {w n : Nat → Int32} {s : Int32} (h : post (cd_bi (cd_cl p n s))) : wpX_closed post (p, w, n) s := by
  by_cases c : (s &&& (p ^^^ (-1))) = 0
  · refine br_t c (cx_nb ?_)
    by_cases d : (cd_nb n s 9 &&& (s ^^^ (-1))) = 0
    · have e : cd_cl p n s = true := by
        unfold cd_cl
        rw [decide_eq_true c, decide_eq_true d]; rfl
      rw [cd_biT e] at h
      exact br_t d h
    · have e : ¬ cd_cl p n s = true := by
        unfold cd_cl
        rw [decide_eq_false d, Bool.and_false]; decide
      rw [cd_biF e] at h
      exact br_f d h
  · have e : ¬ cd_cl p n s = true := by
      unfold cd_cl
      rw [decide_eq_false c, Bool.false_and]; decide
    rw [cd_biF e] at h
    exact br_f c h
theorem cx_cw {post : Int32 → Prop} {p : Int32} {w n : Nat → Int32} {i : Nat} {g : Int32} (h : post (cd_bi (cd_cw p w n g i))) : wpX_isClosedWithWorth post (p, w, n) (nI i) g := by
  unfold wpX_isClosedWithWorth
  dsimp only
  refine cx_closed ?_
  unfold cd_cw at h
  by_cases c : cd_cl p n (nI i) = true
  · rw [cd_biT c]
    refine br_f cx_10 (cx_wo ?_)
    by_cases d : cd_wo w (nI i) 9 = g
    · rw [c, decide_eq_true d] at h
      exact br_t d h
    · rw [c, decide_eq_false d] at h
      exact br_f d h
  · rw [cd_biF c]
    rw [cd_nf c, Bool.false_and] at h
    exact br_t rfl h
theorem cx_greatest {post : Int32 → Prop} {p : Int32} {w n : Nat → Int32} {a b : Int32} (h : post (cd_G p w n a b)) : wpX_greatestWorth post (p, w, n) a b := by
  refine cd_loopS (fun f c z => wX_greatestWorth_6 post a b p w n f z c) (fun i => cd_gm (cd_q p n a b) (fun i => cd_wo w (nI i) 9) i) 512 (-100000) rfl (fun f => br_t cx_512t h) (fun f i hi ih => ?_)
  refine br_f (cx_512f hi) ?_
  have eF : ¬ cd_q p n a b i = true → cd_gm (cd_q p n a b) (fun i => cd_wo w (nI i) 9) i = cd_gm (cd_q p n a b) (fun i => cd_wo w (nI i) 9) (i + 1) := fun hq => (cd_foF (q := cd_q p n a b) hq).symm
  have eT : cd_q p n a b i = true → (if cd_gm (cd_q p n a b) (fun i => cd_wo w (nI i) 9) i < cd_wo w (nI i) 9 then cd_wo w (nI i) 9 else cd_gm (cd_q p n a b) (fun i => cd_wo w (nI i) 9) i) = cd_gm (cd_q p n a b) (fun i => cd_wo w (nI i) 9) (i + 1) := fun hq => (cd_foT (q := cd_q p n a b) (g := fun z i => if z < cd_wo w (nI i) 9 then cd_wo w (nI i) 9 else z) hq).symm
  have nq : ¬ cd_al a b (nI i) = true → ¬ cd_q p n a b i = true := by
    intro na hq
    unfold cd_q at hq
    rw [Bool.and_eq_true] at hq
    exact na hq.1
  by_cases c1 : (nI i &&& a) = a
  · refine br_t c1 ?_
    by_cases c2 : (nI i &&& b) = 0
    · refine br_t c2 (br_f cx_10 (cx_closed ?_))
      have al : cd_al a b (nI i) = true := by
        rw [cd_al_iff, cd_andC b]
        exact ⟨cd_subA.mp c1, c2⟩
      by_cases c : cd_cl p n (nI i) = true
      · have hq : cd_q p n a b i = true := by
          unfold cd_q
          rw [al, c]; rfl
        rw [cd_biT c]
        refine br_f cx_10 (cx_wo ?_)
        by_cases le : cd_wo w (nI i) 9 ≤ cd_gm (cd_q p n a b) (fun i => cd_wo w (nI i) 9) i
        · refine br_t le (fun c ec => ih c _ ec ?_)
          have e := eT hq
          rw [if_neg (Int32.not_lt.mpr le)] at e
          exact e
        · refine br_f le (fun c ec => ih c _ ec ?_)
          have e := eT hq
          rw [if_pos (Int32.not_le.mp le)] at e
          exact e
      · have hq : ¬ cd_q p n a b i = true := by
          unfold cd_q
          rw [cd_nf c, Bool.and_false]; decide
        rw [cd_biF c]
        exact br_t rfl (fun c ec => ih c _ ec (eF hq))
    · have na : ¬ cd_al a b (nI i) = true := by
        rw [cd_al_iff, cd_andC b]
        exact fun h => c2 h.2
      exact br_f c2 (br_t rfl (fun c ec => ih c _ ec (eF (nq na))))
  · have na : ¬ cd_al a b (nI i) = true := by
      rw [cd_al_iff]
      exact fun h => c1 (cd_subA.mpr h.1)
    exact br_f c1 (br_t rfl (fun c ec => ih c _ ec (eF (nq na))))
theorem cx_best {post : Int32 → Prop} {p : Int32} {w n : Nat → Int32} (h : post (cd_G p w n 0 0)) : wpX_best post (p, w, n) := by
  unfold wpX_best
  dsimp only
  exact cx_greatest h
def cd_least (p : Int32) (w n : Nat → Int32) : Int32 := cd_fo (cd_cw p w n (cd_G p w n 0 0)) (fun a i => a &&& nI i) p 512
def cd_great (p : Int32) (w n : Nat → Int32) : Int32 := cd_fo (cd_cw p w n (cd_G p w n 0 0)) (fun a i => a ||| nI i) 0 512
def cd_choices (p : Int32) (w n : Nat → Int32) : Int32 := cd_fo (cd_cw p w n (cd_G p w n 0 0)) (fun a _ => a + 1) 0 512
theorem cx_least {post : Int32 → Prop} {p : Int32} {w n : Nat → Int32} (h : post (cd_least p w n)) : wpX_leastBest post (p, w, n) := by
  unfold wpX_leastBest
  dsimp only
  refine cx_best ?_
  refine cd_loopS (fun f c z => wX_leastBest_12 post (cd_G p w n 0 0) p w n f z c) (fun i => cd_fo (cd_cw p w n (cd_G p w n 0 0)) (fun a i => a &&& nI i) p i) 512 p rfl (fun f => br_t cx_512t h) (fun f i hi ih => ?_)
  refine br_f (cx_512f hi) (cx_cw ?_)
  by_cases c : cd_cw p w n (cd_G p w n 0 0) i = true
  · rw [cd_biT c]
    exact br_f cx_10 (fun a ea c' ec => ih c' a ec (ea.trans (cd_foT (g := fun a i => a &&& nI i) c).symm))
  · rw [cd_biF c]
    exact br_t rfl (fun c' ec => ih c' _ ec (cd_foF (g := fun a i => a &&& nI i) c).symm)
theorem cx_great {post : Int32 → Prop} {p : Int32} {w n : Nat → Int32} (h : post (cd_great p w n)) : wpX_greatestBest post (p, w, n) := by
  unfold wpX_greatestBest
  dsimp only
  refine cx_best ?_
  refine cd_loopS (fun f c z => wX_greatestBest_9 post (cd_G p w n 0 0) p w n f z c) (fun i => cd_fo (cd_cw p w n (cd_G p w n 0 0)) (fun a i => a ||| nI i) 0 i) 512 0 rfl (fun f => br_t cx_512t h) (fun f i hi ih => ?_)
  refine br_f (cx_512f hi) (cx_cw ?_)
  by_cases c : cd_cw p w n (cd_G p w n 0 0) i = true
  · rw [cd_biT c]
    exact br_f cx_10 (fun a ea c' ec => ih c' a ec (ea.trans (cd_foT (g := fun a i => a ||| nI i) c).symm))
  · rw [cd_biF c]
    exact br_t rfl (fun c' ec => ih c' _ ec (cd_foF (g := fun a i => a ||| nI i) c).symm)
theorem cx_choices {post : Int32 → Prop} {p : Int32} {w n : Nat → Int32} (h : post (cd_choices p w n)) : wpX_choices post (p, w, n) := by
  unfold wpX_choices
  dsimp only
  refine cx_best ?_
  refine cd_loopS (fun f c z => wX_choices_9 post (cd_G p w n 0 0) p w n f z c) (fun i => cd_fo (cd_cw p w n (cd_G p w n 0 0)) (fun a _ => a + 1) 0 i) 512 0 rfl (fun f => br_t cx_512t h) (fun f i hi ih => ?_)
  refine br_f (cx_512f hi) (cx_cw ?_)
  by_cases c : cd_cw p w n (cd_G p w n 0 0) i = true
  · rw [cd_biT c]
    exact br_f cx_10 (fun a ea c' ec => ih c' a ec (ea.trans (cd_foT (g := fun a _ => a + 1) c).symm))
  · rw [cd_biF c]
    exact br_t rfl (fun c' ec => ih c' _ ec (cd_foF (g := fun a _ => a + 1) c).symm)
theorem cx_closure {post : Int32 → Prop} {p : Int32} {w n : Nat → Int32} {s : Int32} (h : post (cd_gr n (s &&& p) 9)) : wpX_closure post (p, w, n) s := by
  refine nm_e ?_
  refine cd_loopS (fun f c a => wX_closure_9 post p w n f a c) (fun i => cd_gr n (s &&& p) i) 9 (s &&& p) rfl (fun f => br_t cx_9t h) (fun f i hi ih => ?_)
  refine br_f (cx_9f hi) (cx_nb ?_)
  exact fun a ea c ec => ih c a ec ea
theorem cd_pres (p x : Int32) : (∃ k, k < 9 ∧ x = nI k ∧ bt p k = true) ∨ ∀ k, k < 9 → x = nI k → bt p k = false := by
  by_cases h : ∃ k, k < 9 ∧ x = nI k ∧ bt p k = true
  · exact Or.inl h
  · refine Or.inr (fun k hk e => cd_nf (fun c => h ⟨k, hk, e, c⟩))
theorem cx_0le {k : Nat} (h : k < 9) : ¬ nI k < 0 := nI_pos (by omega)
theorem cd_ix (x : Int32) : x < 0 ∨ (¬ x < 0 ∧ (9 : Int32) ≤ x) ∨ ∃ k, k < 9 ∧ x = nI k := by
  by_cases h : x < 0
  · exact Or.inl h
  · by_cases h9 : (9 : Int32) ≤ x
    · exact Or.inr (Or.inl ⟨h, h9⟩)
    · obtain ⟨j, hj, e⟩ := nI_of h
      refine Or.inr (Or.inr ⟨j, ?_, e⟩)
      rw [e] at h9
      apply Classical.byContradiction
      intro hn
      exact h9 (nI_le (a := 9) (by omega) hj)
theorem cx_isP_T {post : Int32 → Prop} {p : Int32} {w n : Nat → Int32} {k : Nat} (hk : k < 9) (hp : bt p k = true) (h : post 1) : wpX_isPresent post (p, w, n) (nI k) := by
  refine br_f (cx_0le hk) (br_f (cx_9f hk) (cx_isIn (by omega) ?_))
  rw [cd_biT hp]
  exact br_f cx_10 h
theorem cx_isP_F {post : Int32 → Prop} {p : Int32} {w n : Nat → Int32} {x : Int32} (hx : ∀ k, k < 9 → x = nI k → bt p k = false) (h : post 0) : wpX_isPresent post (p, w, n) x := by
  rcases cd_ix x with h0 | ⟨h0, h9⟩ | ⟨k, hk, e⟩
  · exact br_t h0 h
  · exact br_f h0 (br_t h9 h)
  · subst e
    refine br_f (cx_0le hk) (br_f (cx_9f hk) (cx_isIn (by omega) ?_))
    rw [cd_biF (cd_fn (hx k hk rfl))]
    exact br_t rfl h
end
section
theorem cy_un {post : Int32 → Prop} {p : Int32} {w n t m : Nat → Int32} (R : cd_R p n t m) (h : post p) : wpY_undertakings post (t, w, m) := by
  rw [← cd_un_p R] at h
  refine cd_loopS (fun f c a => wY_undertakings_4 post t w m f a c) (fun i => cd_un t i) 9 0 rfl (fun f => br_t cx_9t h) (fun f i hi ih => ?_)
  refine br_f (cx_9f hi) ⟨cx_in hi, ?_⟩
  by_cases c : t i = 0
  · have c' : t (nI i).toNatClampNeg = 0 := by rw [cx_cp hi]; exact c
    have e : cd_un t i = cd_un t (i + 1) := (cd_foF (q := fun i => decide (¬ t i = 0)) (by simp [c])).symm
    exact br_t c' (fun c ec => ih c _ ec e)
  · have c' : ¬ t (nI i).toNatClampNeg = 0 := by rw [cx_cp hi]; exact c
    have e : cd_un t i ||| cd_one i = cd_un t (i + 1) := (cd_foT (q := fun i => decide (¬ t i = 0)) (g := fun a i => a ||| cd_one i) (by simp [c])).symm
    exact br_f c' (fun a ea c ec => ih c a ec (ea.trans e))
theorem cy_cl19 {post : Int32 → Prop} {w t m : Nat → Int32} {s : Int32} (b : Bool) (h : post (cd_bi (cd_ok m s b 9))) : ∃ f, wY_closed_19 post s t w m f (cd_bi b) 0 := by
  refine cd_loopS (fun f c a => wY_closed_19 post s t w m f a c) (fun i => cd_bi (cd_ok m s b i)) 9 (cd_bi b) rfl (fun f => br_t cx_9t ⟨cd_bin _, h⟩) (fun f i hi ih => ?_)
  refine br_f (cx_9f hi) ?_
  have ek : cd_ok m s b (i + 1) = (cd_ok m s b i && (!bt s i || decide ((m i &&& (s ^^^ (-1))) = 0))) := rfl
  by_cases c : cd_ok m s b i = true
  · have c0 : ¬ cd_bi (cd_ok m s b i) = 0 := cd_bi1.mpr c
    refine br_f c0 ?_
    by_cases d : bt s i = true
    · refine br_f (fun z => cd_fn ((cd_bit0 s (by omega)).mp z) d) ⟨cx_in hi, ?_⟩
      by_cases g : (m i &&& (s ^^^ (-1))) = 0
      · have g' : (m (nI i).toNatClampNeg &&& (s ^^^ (-1))) = 0 := by rw [cx_cp hi]; exact g
        have e : (1 : Int32) = cd_bi (cd_ok m s b (i + 1)) := by
          rw [ek, c, decide_eq_true g, Bool.or_true]; rfl
        exact br_t g' (fun c ec => ih c _ ec e)
      · have g' : ¬ (m (nI i).toNatClampNeg &&& (s ^^^ (-1))) = 0 := by rw [cx_cp hi]; exact g
        have e : (0 : Int32) = cd_bi (cd_ok m s b (i + 1)) := by
          rw [ek, c, decide_eq_false g, d]; rfl
        exact br_f g' (fun c ec => ih c _ ec e)
    · have e : (1 : Int32) = cd_bi (cd_ok m s b (i + 1)) := by
        rw [ek, c, cd_nf d]; rfl
      exact br_t ((cd_bit0 s (by omega)).mpr (cd_nf d)) (fun c ec => ih c _ ec e)
  · have c0 : cd_bi (cd_ok m s b i) = 0 := cd_biF c
    have e : (0 : Int32) = cd_bi (cd_ok m s b (i + 1)) := by
      rw [ek, cd_nf c]; rfl
    exact br_t c0 (fun c ec => ih c _ ec e)
theorem cy_closed {post : Int32 → Prop} {p : Int32} {w n t m : Nat → Int32} (R : cd_R p n t m) {s : Int32} (h : post (cd_bi (cd_cl p n s))) : wpY_closed post (t, w, m) s := by
  unfold wpY_closed
  dsimp only
  refine cy_un R ?_
  rw [← cd_ok_cl R s] at h
  by_cases c : (s &&& (p ^^^ (-1))) = 0
  · rw [decide_eq_true c] at h
    exact br_t c (cy_cl19 true h)
  · rw [decide_eq_false c] at h
    exact br_f c (cy_cl19 false h)
theorem cy_sum {post : Int32 → Prop} {w t m : Nat → Int32} {s : Int32} (h : post (cd_wo w s 9)) : wpY_sum post (t, w, m) s := by
  refine cd_loopS (fun f c a => wY_sum_4 post s t w m f a c) (fun i => cd_wo w s i) 9 0 rfl (fun f => br_t cx_9t h) (fun f i hi ih => ?_)
  refine br_f (cx_9f hi) ?_
  by_cases c : bt s i = true
  · have e : cd_wo w s i + w (nI i).toNatClampNeg = cd_wo w s (i + 1) := by
      rw [cx_cp hi]
      exact (cd_foT (q := fun i => bt s i) (g := fun a i => a + w i) c).symm
    exact br_t ((cd_bit1 s (by omega)).mpr c) ⟨cx_in hi, fun a ea c ec => ih c a ec (ea.trans e)⟩
  · have e : cd_wo w s i = cd_wo w s (i + 1) := (cd_foF (q := fun i => bt s i) c).symm
    exact br_f (fun z => c ((cd_bit1 s (by omega)).mp z)) (fun c ec => ih c _ ec e)
theorem cy_greatest {post : Int32 → Prop} {p : Int32} {w n t m : Nat → Int32} (R : cd_R p n t m) {a b : Int32} (h : post (cd_G p w n a b)) : wpY_greatest post (t, w, m) a b := by
  refine cd_loopS (fun f c z => wY_greatest_6 post a b t w m f z c) (fun i => cd_gm (cd_q p n a b) (fun i => cd_wo w (nI i) 9) i) 512 (-100000) rfl (fun f => br_t cx_512t h) (fun f i hi ih => ?_)
  refine br_f (cx_512f hi) ?_
  have eF : ¬ cd_q p n a b i = true → cd_gm (cd_q p n a b) (fun i => cd_wo w (nI i) 9) i = cd_gm (cd_q p n a b) (fun i => cd_wo w (nI i) 9) (i + 1) := fun hq => (cd_foF (q := cd_q p n a b) hq).symm
  have eT : cd_q p n a b i = true → (if cd_gm (cd_q p n a b) (fun i => cd_wo w (nI i) 9) i < cd_wo w (nI i) 9 then cd_wo w (nI i) 9 else cd_gm (cd_q p n a b) (fun i => cd_wo w (nI i) 9) i) = cd_gm (cd_q p n a b) (fun i => cd_wo w (nI i) 9) (i + 1) := fun hq => (cd_foT (q := cd_q p n a b) (g := fun z i => if z < cd_wo w (nI i) 9 then cd_wo w (nI i) 9 else z) hq).symm
  have nq : ¬ cd_al a b (nI i) = true → ¬ cd_q p n a b i = true := by
    intro na hq
    unfold cd_q at hq
    rw [Bool.and_eq_true] at hq
    exact na hq.1
  by_cases c1 : (a &&& (nI i ^^^ (-1))) = 0
  · refine br_t c1 ?_
    by_cases c2 : (b &&& nI i) = 0
    · refine br_t c2 (cy_closed R ?_)
      have al : cd_al a b (nI i) = true := by
        rw [cd_al_iff]
        exact ⟨cd_sub.mp c1, c2⟩
      by_cases c : cd_cl p n (nI i) = true
      · have hq : cd_q p n a b i = true := by
          unfold cd_q
          rw [al, c]; rfl
        rw [cd_biT c]
        refine br_f cx_10 (cy_sum ?_)
        by_cases le : cd_wo w (nI i) 9 ≤ cd_gm (cd_q p n a b) (fun i => cd_wo w (nI i) 9) i
        · refine br_t le (fun c ec => ih c _ ec ?_)
          have e := eT hq
          rw [if_neg (Int32.not_lt.mpr le)] at e
          exact e
        · refine br_f le (fun c ec => ih c _ ec ?_)
          have e := eT hq
          rw [if_pos (Int32.not_le.mp le)] at e
          exact e
      · have hq : ¬ cd_q p n a b i = true := by
          unfold cd_q
          rw [cd_nf c, Bool.and_false]; decide
        rw [cd_biF c]
        exact br_t rfl (fun c ec => ih c _ ec (eF hq))
    · have na : ¬ cd_al a b (nI i) = true := by
        rw [cd_al_iff]
        exact fun h => c2 h.2
      exact br_f c2 (fun c ec => ih c _ ec (eF (nq na)))
  · have na : ¬ cd_al a b (nI i) = true := by
      rw [cd_al_iff]
      exact fun h => c1 (cd_sub.mpr h.1)
    exact br_f c1 (fun c ec => ih c _ ec (eF (nq na)))
theorem cy_best {post : Int32 → Prop} {p : Int32} {w n t m : Nat → Int32} (R : cd_R p n t m) (h : post (cd_G p w n 0 0)) : wpY_best post (t, w, m) := by
  unfold wpY_best
  dsimp only
  exact cy_greatest R h
theorem cd_cwT {p : Int32} {w n : Nat → Int32} {g : Int32} {i : Nat} (c : cd_cl p n (nI i) = true) (d : cd_wo w (nI i) 9 = g) : cd_cw p w n g i = true := by
  unfold cd_cw
  rw [c, decide_eq_true d]; rfl
theorem cd_cwF {p : Int32} {w n : Nat → Int32} {g : Int32} {i : Nat} (d : ¬ cd_wo w (nI i) 9 = g) : ¬ cd_cw p w n g i = true := by
  unfold cd_cw
  rw [decide_eq_false d, Bool.and_false]; decide
theorem cd_cwG {p : Int32} {w n : Nat → Int32} {g : Int32} {i : Nat} (c : ¬ cd_cl p n (nI i) = true) : ¬ cd_cw p w n g i = true := by
  unfold cd_cw
  rw [cd_nf c, Bool.false_and]; decide
theorem cy_least {post : Int32 → Prop} {p : Int32} {w n t m : Nat → Int32} (R : cd_R p n t m) (h : post (cd_least p w n)) : wpY_leastBest post (t, w, m) := by
  unfold wpY_leastBest
  dsimp only
  refine cy_best R ?_
  refine cy_un R ?_
  refine cd_loopS (fun f c z => wY_leastBest_12 post (cd_G p w n 0 0) t w m f z c) (fun i => cd_fo (cd_cw p w n (cd_G p w n 0 0)) (fun a i => a &&& nI i) p i) 512 p rfl (fun f => br_t cx_512t h) (fun f i hi ih => ?_)
  refine br_f (cx_512f hi) (cy_closed R ?_)
  by_cases c : cd_cl p n (nI i) = true
  · rw [cd_biT c]
    refine br_f cx_10 (cy_sum ?_)
    by_cases d : cd_wo w (nI i) 9 = cd_G p w n 0 0
    · exact br_t d (fun a ea c' ec => ih c' a ec (ea.trans (cd_foT (g := fun a i => a &&& nI i) (cd_cwT c d)).symm))
    · exact br_f d (fun c' ec => ih c' _ ec (cd_foF (g := fun a i => a &&& nI i) (cd_cwF d)).symm)
  · rw [cd_biF c]
    exact br_t rfl (fun c' ec => ih c' _ ec (cd_foF (g := fun a i => a &&& nI i) (cd_cwG c)).symm)
theorem cy_great {post : Int32 → Prop} {p : Int32} {w n t m : Nat → Int32} (R : cd_R p n t m) (h : post (cd_great p w n)) : wpY_greatestBest post (t, w, m) := by
  unfold wpY_greatestBest
  dsimp only
  refine cy_best R ?_
  refine cd_loopS (fun f c z => wY_greatestBest_9 post (cd_G p w n 0 0) t w m f z c) (fun i => cd_fo (cd_cw p w n (cd_G p w n 0 0)) (fun a i => a ||| nI i) 0 i) 512 0 rfl (fun f => br_t cx_512t h) (fun f i hi ih => ?_)
  refine br_f (cx_512f hi) (cy_closed R ?_)
  by_cases c : cd_cl p n (nI i) = true
  · rw [cd_biT c]
    refine br_f cx_10 (cy_sum ?_)
    by_cases d : cd_wo w (nI i) 9 = cd_G p w n 0 0
    · exact br_t d (fun a ea c' ec => ih c' a ec (ea.trans (cd_foT (g := fun a i => a ||| nI i) (cd_cwT c d)).symm))
    · exact br_f d (fun c' ec => ih c' _ ec (cd_foF (g := fun a i => a ||| nI i) (cd_cwF d)).symm)
  · rw [cd_biF c]
    exact br_t rfl (fun c' ec => ih c' _ ec (cd_foF (g := fun a i => a ||| nI i) (cd_cwG c)).symm)
theorem cy_choices {post : Int32 → Prop} {p : Int32} {w n t m : Nat → Int32} (R : cd_R p n t m) (h : post (cd_choices p w n)) : wpY_choices post (t, w, m) := by
  unfold wpY_choices
  dsimp only
  refine cy_best R ?_
  refine cd_loopS (fun f c z => wY_choices_9 post (cd_G p w n 0 0) t w m f z c) (fun i => cd_fo (cd_cw p w n (cd_G p w n 0 0)) (fun a _ => a + 1) 0 i) 512 0 rfl (fun f => br_t cx_512t h) (fun f i hi ih => ?_)
  refine br_f (cx_512f hi) (cy_closed R ?_)
  by_cases c : cd_cl p n (nI i) = true
  · rw [cd_biT c]
    refine br_f cx_10 (cy_sum ?_)
    by_cases d : cd_wo w (nI i) 9 = cd_G p w n 0 0
    · exact br_t d (fun a ea c' ec => ih c' a ec (ea.trans (cd_foT (g := fun a _ => a + 1) (cd_cwT c d)).symm))
    · exact br_f d (fun c' ec => ih c' _ ec (cd_foF (g := fun a _ => a + 1) (cd_cwF d)).symm)
  · rw [cd_biF c]
    exact br_t rfl (fun c' ec => ih c' _ ec (cd_foF (g := fun a _ => a + 1) (cd_cwG c)).symm)
theorem cy_cl14 {post : Int32 → Prop} {p : Int32} {w n t m : Nat → Int32} (R : cd_R p n t m) {s : Int32} : ∀ k, k ≤ 512 → ∀ l x, x = nI k + (-1) → post (cd_fi (cd_cq p n s) k l) → wY_closure_14 post s t w m (k + 1) l x := by
  intro k
  induction k with
  | zero =>
    intro _ l x hx h
    have h0 : x < 0 := by rw [hx]; decide
    exact br_t h0 h
  | succ k ih =>
    intro hk l x hx h
    rw [pk_m1] at hx
    subst hx
    have h0 : ¬ nI k < 0 := nI_pos (by omega)
    refine br_f h0 (cy_closed R ?_)
    have h' : post (cd_fi (cd_cq p n s) k (if cd_cq p n s k = true then nI k else l)) := h
    by_cases c : cd_cl p n (nI k) = true
    · rw [cd_biT c]
      refine br_f cx_10 ?_
      by_cases d : (s &&& (nI k ^^^ (-1))) = 0
      · have e : cd_cq p n s k = true := by
          unfold cd_cq
          rw [c, decide_eq_true d]; rfl
        rw [if_pos e] at h'
        exact br_t d (fun y ey => ih (by omega) _ y ey h')
      · have e : ¬ cd_cq p n s k = true := by
          unfold cd_cq
          rw [decide_eq_false d, Bool.and_false]; decide
        rw [if_neg e] at h'
        exact br_f d (fun y ey => ih (by omega) _ y ey h')
    · have e : ¬ cd_cq p n s k = true := by
        unfold cd_cq
        rw [cd_nf c, Bool.false_and]; decide
      rw [if_neg e] at h'
      rw [cd_biF c]
      exact br_t rfl (fun y ey => ih (by omega) _ y ey h')
theorem cy_closure {post : Int32 → Prop} {p : Int32} {w n t m : Nat → Int32} (R : cd_R p n t m) {s : Int32} (h : post (cd_gr n (s &&& p) 9)) : wpY_closure post (t, w, m) s := by
  unfold wpY_closure
  dsimp only
  refine cy_un R ?_
  refine nm_e ?_
  have hs : cd_S (s &&& p) p := by
    intro j hj
    rw [b_and, Bool.and_eq_true] at hj
    exact hj.2
  rw [← cd_closure (n := n) (s := s &&& p) (p := p) (fun i hi => ((R.2.1 i).mp hi).1) R.2.2.2.2 hs] at h
  exact ⟨513, cy_cl14 R 512 (by omega) 0 511 (by decide) h⟩
theorem cy_is_T {post : Int32 → Prop} {p : Int32} {w n t m : Nat → Int32} (R : cd_R p n t m) {k : Nat} (hk : k < 9) (hp : bt p k = true) (h : post 1) : wpY_is post (t, w, m) (nI k) := by
  have ht : ¬ t (nI k).toNatClampNeg = 0 := by
    rw [cx_cp hk]
    exact ((R.2.1 k).mp hp).2
  exact br_f (cx_0le hk) (br_f (cx_9f hk) ⟨cx_in hk, br_f ht h⟩)
theorem cd_R_f {p : Int32} {n t m : Nat → Int32} (R : cd_R p n t m) {k : Nat} (hk : k < 9) (hp : bt p k = false) : t k = 0 := by
  apply Classical.byContradiction
  intro c
  exact cd_fn hp ((R.2.1 k).mpr ⟨hk, c⟩)
theorem cy_is_F {post : Int32 → Prop} {p : Int32} {w n t m : Nat → Int32} (R : cd_R p n t m) {x : Int32} (hx : ∀ k, k < 9 → x = nI k → bt p k = false) (h : post 0) : wpY_is post (t, w, m) x := by
  rcases cd_ix x with h0 | ⟨h0, h9⟩ | ⟨k, hk, e⟩
  · exact br_t h0 h
  · exact br_f h0 (br_t h9 h)
  · subst e
    have ht : t (nI k).toNatClampNeg = 0 := by
      rw [cx_cp hk]
      exact cd_R_f R hk (hx k hk rfl)
    exact br_f (cx_0le hk) (br_f (cx_9f hk) ⟨cx_in hk, br_t ht h⟩)
end
section
def i_Rel (k : Nat) (u : SX) (v : SY) : Prop := ∃ (p : Int32) (w n t m : Nat → Int32), u = (p, w, n) ∧ v = (t, w, m) ∧ cd_R p n t m ∧ cd_W w
theorem cd_rel (k : Nat) {p : Int32} {w n t m : Nat → Int32} (R : cd_R p n t m) (hw : cd_W w) : i_Rel k (p, w, n) (t, w, m) := ⟨p, w, n, t, m, rfl, rfl, R, hw⟩
theorem i_up {k : Nat} {u : SX} {v : SY} (h : i_Rel k u v) : i_Rel (k + 4) u v := h
theorem i_vc0 : wpX_init (fun u => wpY_init (fun v => i_Rel 0 u v)) := cd_rel 0 cd_R_0 cd_W_0
def cd_wf (x : Int32) : Bool := decide (¬ x < (-50)) && decide (¬ 50 < x)
theorem cd_wfF1 {x : Int32} (h : x < (-50)) : cd_bi (cd_wf x) = 0 := by
  apply cd_biF
  unfold cd_wf
  rw [decide_eq_false (fun z => z h), Bool.false_and]; decide
theorem cd_wfF2 {x : Int32} (h : 50 < x) : cd_bi (cd_wf x) = 0 := by
  apply cd_biF
  unfold cd_wf
  rw [decide_eq_false (p := ¬ 50 < x) (fun z => z h), Bool.and_false]; decide
theorem cd_wfT {x : Int32} (h1 : ¬ x < (-50)) (h2 : ¬ 50 < x) : cd_bi (cd_wf x) = 1 := by
  apply cd_biT
  unfold cd_wf
  rw [decide_eq_true h1, decide_eq_true h2]; rfl
theorem cd_wfI {x : Int32} (h : cd_wf x = true) : -50 ≤ x.toInt ∧ x.toInt ≤ 50 := by
  unfold cd_wf at h
  rw [Bool.and_eq_true, decide_eq_true_iff, decide_eq_true_iff, Int32.lt_iff_toInt_lt, Int32.lt_iff_toInt_lt, show (-50 : Int32).toInt = -50 from by decide, show (50 : Int32).toInt = 50 from by decide] at h
  omega
theorem cx_isW {post : Int32 → Prop} {x : Int32} (h : post (cd_bi (cd_wf x))) : wpX_isWorth post x := by
  by_cases c : x < (-50)
  · rw [cd_wfF1 c] at h
    exact br_t c h
  · by_cases d : 50 < x
    · rw [cd_wfF2 d] at h
      exact br_f c (br_t d h)
    · rw [cd_wfT c d] at h
      exact br_f c (br_f d h)
theorem cy_fits {post : Int32 → Prop} {v : SY} {x : Int32} (h : post (cd_bi (cd_wf x))) : wpY_fits post v x := by
  by_cases c : x < (-50)
  · rw [cd_wfF1 c] at h
    exact br_t c h
  · by_cases d : 50 < x
    · rw [cd_wfF2 d] at h
      exact br_f c (br_t d h)
    · rw [cd_wfT c d] at h
      exact br_f c (br_f d h)
theorem cd_nb0 : vp_nar .boolean 0 = 0 := by decide
theorem cd_nb1 : vp_nar .boolean 1 = 1 := by decide
theorem cx_add_T {post : Int32 → SX → Prop} {p : Int32} {w n : Nat → Int32} {x : Int32} {k : Nat} (hk : k < 9) (hp : bt p k = false) (hj : ∀ j, j < k → bt p j = true) (h : post (nI k) (p ||| cd_one k, upd w k x, n)) : ∃ f, wX_add_11 post x p w n f 0 := by
  refine cd_loop0 (fun f c => wX_add_11 post x p w n f c) k (fun f => ?_) (fun f i hi ih => ?_)
  · refine br_f (cx_9f hk) (cx_isIn (by omega) ?_)
    rw [cd_biF (cd_fn hp)]
    refine br_t rfl (fun q eq => ⟨cx_in hk, fun a ea => ?_⟩)
    rw [eq, ea, cx_cp hk]
    exact h
  · refine br_f (cx_9f (by omega)) (cx_isIn (by omega) ?_)
    rw [cd_biT (hj i hi)]
    exact br_f cx_10 (fun c ec => ih c ec)
theorem cx_add_F {post : Int32 → SX → Prop} {p : Int32} {w n : Nat → Int32} {x : Int32} (hj : ∀ j, j < 9 → bt p j = true) (h : post (-2) (p, w, n)) : ∃ f, wX_add_11 post x p w n f 0 := by
  refine cd_loop0 (fun f c => wX_add_11 post x p w n f c) 9 (fun f => br_t cx_9t h) (fun f i hi ih => ?_)
  refine br_f (cx_9f hi) (cx_isIn (by omega) ?_)
  rw [cd_biT (hj i hi)]
  exact br_f cx_10 (fun c ec => ih c ec)
theorem cy_add_T {post : Int32 → SY → Prop} {w t m : Nat → Int32} {x : Int32} {k : Nat} (hk : k < 9) (hp : t k = 0) (hj : ∀ j, j < k → ¬ t j = 0) (h : post (nI k) (upd t k 1, upd w k x, upd m k 0)) : ∃ f, wY_add_12 post x t w m f 0 := by
  refine cd_loop0 (fun f c => wY_add_12 post x t w m f c) k (fun f => ?_) (fun f i hi ih => ?_)
  · have ht : t (nI k).toNatClampNeg = 0 := by rw [cx_cp hk]; exact hp
    refine br_f (cx_9f hk) ⟨cx_in hk, br_t ht ⟨cx_in hk, fun a ea => ⟨cx_in hk, fun b eb => ⟨cx_in hk, fun c ec => ?_⟩⟩⟩⟩
    rw [ea, eb, ec, cx_cp hk, cd_nb1]
    exact h
  · have hi9 : i < 9 := by omega
    have ht : ¬ t (nI i).toNatClampNeg = 0 := by rw [cx_cp hi9]; exact hj i hi
    exact br_f (cx_9f hi9) ⟨cx_in hi9, br_f ht (fun c ec => ih c ec)⟩
theorem cy_add_F {post : Int32 → SY → Prop} {w t m : Nat → Int32} {x : Int32} (hj : ∀ j, j < 9 → ¬ t j = 0) (h : post (-2) (t, w, m)) : ∃ f, wY_add_12 post x t w m f 0 := by
  refine cd_loop0 (fun f c => wY_add_12 post x t w m f c) 9 (fun f => br_t cx_9t h) (fun f i hi ih => ?_)
  have ht : ¬ t (nI i).toNatClampNeg = 0 := by rw [cx_cp hi]; exact hj i hi
  exact br_f (cx_9f hi) ⟨cx_in hi, br_f ht (fun c ec => ih c ec)⟩
theorem i_vc_add {k : Nat} {u : SX} {v : SY} (I : i_Rel k u v) (hk : k + 4 ≤ 2048) (v1 : Int32) : wpX_add (fun r u' => wpY_add (fun r' v' => r' = r ∧ i_Rel (k + 4) u' v') v v1) u v1 := by
  obtain ⟨p, w, n, t, m, rfl, rfl, R, hw⟩ := I
  unfold wpX_add wpY_add
  dsimp only
  refine cx_isW ?_
  by_cases c : cd_wf v1 = true
  · rw [cd_biT c]
    refine br_f cx_10 ?_
    have hv := cd_wfI c
    rcases cd_first p 9 with ⟨j, hj, hp, ha⟩ | ha
    · refine cx_add_T hj hp ha ?_
      refine cy_fits ?_
      rw [cd_biT c]
      refine br_f cx_10 (cy_add_T hj (cd_R_f R hj hp) (fun i hi => ((R.2.1 i).mp (ha i hi)).2) ⟨rfl, ?_⟩)
      exact cd_rel _ (cd_R_add R hj hp) (cd_W_upd hw hv.1 hv.2)
    · refine cx_add_F ha ?_
      refine cy_fits ?_
      rw [cd_biT c]
      exact br_f cx_10 (cy_add_F (fun i hi => ((R.2.1 i).mp (ha i hi)).2) ⟨rfl, cd_rel _ R hw⟩)
  · rw [cd_biF c]
    refine br_t rfl ?_
    refine cy_fits ?_
    rw [cd_biF c]
    exact br_t rfl ⟨rfl, cd_rel _ R hw⟩
theorem i_vc_remove {k : Nat} {u : SX} {v : SY} (I : i_Rel k u v) (hk : k + 4 ≤ 2048) (v1 : Int32) : wpX_remove (fun r u' => wpY_remove (fun r' v' => r' = r ∧ i_Rel (k + 4) u' v') v v1) u v1 := by
  obtain ⟨p, w, n, t, m, rfl, rfl, R, hw⟩ := I
  unfold wpX_remove wpY_remove
  dsimp only
  rcases cd_pres p v1 with ⟨j, hj, e, hp⟩ | ha
  · subst e
    refine cx_isP_T hj hp ?_
    refine br_f cx_10 (fun q eq => ⟨cx_in hj, fun a ea => ?_⟩)
    subst eq ea
    rw [cx_cp hj]
    refine cd_loopS (fun f c a => wX_remove_33 _ (nI j) _ f c w a) (fun i => cd_ms (upd n j 0) (cd_one j ^^^ (-1)) i) 9 (upd n j 0) (cd_ms_0 _ _) (fun f => br_t cx_9t ?_) (fun f i hi ih => ?_)
    · refine cy_is_T R hj hp ?_
      refine br_f cx_10 ⟨cx_in hj, fun b eb => ?_⟩
      subst eb
      rw [cd_nb0]
      refine cd_loopS (fun f c a => wY_remove_19 _ (nI j) f c (upd t j 0) w a) (fun i => cd_ms m (cd_one j ^^^ (-1)) i) 9 m (cd_ms_0 _ _) (fun f => br_t cx_9t ⟨rfl, cd_rel _ (cd_R_rem R hj) hw⟩) (fun f i hi ih => ?_)
      have e : upd (cd_ms m (cd_one j ^^^ (-1)) i) (nI i).toNatClampNeg ((cd_ms m (cd_one j ^^^ (-1)) i (nI i).toNatClampNeg) &&& (cd_one j ^^^ (-1))) = cd_ms m (cd_one j ^^^ (-1)) (i + 1) := by
        rw [cx_cp hi, cd_ms_at, cd_ms_s]
      exact br_f (cx_9f hi) ⟨cx_in hi, cx_in hi, fun a ea c ec => ih c a ec (ea.trans e)⟩
    · have e : upd (cd_ms (upd n j 0) (cd_one j ^^^ (-1)) i) (nI i).toNatClampNeg ((cd_ms (upd n j 0) (cd_one j ^^^ (-1)) i (nI i).toNatClampNeg) &&& (cd_one j ^^^ (-1))) = cd_ms (upd n j 0) (cd_one j ^^^ (-1)) (i + 1) := by
        rw [cx_cp hi, cd_ms_at, cd_ms_s]
      exact br_f (cx_9f hi) ⟨cx_in hi, cx_in hi, fun a ea c ec => ih c a ec (ea.trans e)⟩
  · refine cx_isP_F ha ?_
    refine br_t rfl ?_
    refine cy_is_F R ha ?_
    exact br_t rfl ⟨rfl, cd_rel _ R hw⟩
theorem i_vc_rate {k : Nat} {u : SX} {v : SY} (I : i_Rel k u v) (hk : k + 4 ≤ 2048) (v1 : Int32) (v2 : Int32) : wpX_rate (fun r u' => wpY_rate (fun r' v' => r' = r ∧ i_Rel (k + 4) u' v') v v1 v2) u v1 v2 := by
  obtain ⟨p, w, n, t, m, rfl, rfl, R, hw⟩ := I
  unfold wpX_rate wpY_rate
  dsimp only
  rcases cd_pres p v1 with ⟨j, hj, e, hp⟩ | ha
  · subst e
    refine cx_isP_T hj hp ?_
    refine br_f cx_10 ?_
    refine cx_isW ?_
    by_cases c : cd_wf v2 = true
    · rw [cd_biT c]
      refine br_f cx_10 ⟨cx_in hj, fun a ea => ?_⟩
      refine cy_is_T R hj hp ?_
      refine br_f cx_10 ?_
      refine cy_fits ?_
      rw [cd_biT c]
      refine br_f cx_10 ⟨cx_in hj, fun b eb => ⟨rfl, ?_⟩⟩
      have hv := cd_wfI c
      rw [ea, eb]
      exact cd_rel _ R (cd_W_upd hw hv.1 hv.2)
    · rw [cd_biF c]
      refine br_t rfl ?_
      refine cy_is_T R hj hp ?_
      refine br_f cx_10 ?_
      refine cy_fits ?_
      rw [cd_biF c]
      exact br_t rfl ⟨rfl, cd_rel _ R hw⟩
  · refine cx_isP_F ha ?_
    refine br_t rfl ?_
    refine cy_is_F R ha ?_
    exact br_t rfl ⟨rfl, cd_rel _ R hw⟩
end
section
theorem cx_pair_a {post : Int32 → Prop} {p : Int32} {w n : Nat → Int32} {x y : Int32} (e : x = y) (h : post 0) : wpX_isPair post (p, w, n) x y := br_t e h
theorem cx_pair_b {post : Int32 → Prop} {p : Int32} {w n : Nat → Int32} {x y : Int32} (e : ¬ x = y) (hx : ∀ k, k < 9 → x = nI k → bt p k = false) (h : post 0) : wpX_isPair post (p, w, n) x y := by
  refine br_f e (cx_isP_F hx ?_)
  exact br_t rfl h
theorem cx_pair_c {post : Int32 → Prop} {p : Int32} {w n : Nat → Int32} {i : Nat} {y : Int32} (e : ¬ nI i = y) (hi : i < 9) (hp : bt p i = true) (hy : ∀ k, k < 9 → y = nI k → bt p k = false) (h : post 0) : wpX_isPair post (p, w, n) (nI i) y := by
  refine br_f e (cx_isP_T hi hp ?_)
  refine br_f cx_10 (cx_isP_F hy ?_)
  exact br_t rfl h
theorem cx_pair_d {post : Int32 → Prop} {p : Int32} {w n : Nat → Int32} {i j : Nat} (e : ¬ nI i = nI j) (hi : i < 9) (hp : bt p i = true) (hj : j < 9) (hq : bt p j = true) (h : post 1) : wpX_isPair post (p, w, n) (nI i) (nI j) := by
  refine br_f e (cx_isP_T hi hp ?_)
  refine br_f cx_10 (cx_isP_T hj hq ?_)
  exact br_f cx_10 h
theorem i_vc_need {k : Nat} {u : SX} {v : SY} (I : i_Rel k u v) (hk : k + 4 ≤ 2048) (v1 : Int32) (v2 : Int32) (v3 : Int32) : wpX_need (fun r u' => wpY_need (fun r' v' => r' = r ∧ i_Rel (k + 4) u' v') v v1 v2 (lw_bz v3)) u v1 v2 (lw_bz v3) := by
  obtain ⟨p, w, n, t, m, rfl, rfl, R, hw⟩ := I
  unfold wpX_need wpY_need
  dsimp only
  by_cases e : v1 = v2
  · refine cx_pair_a e ?_
    exact br_t rfl (br_t e ⟨rfl, cd_rel _ R hw⟩)
  · rcases cd_pres p v1 with ⟨i, hi, e1, hp⟩ | ha
    · subst e1
      rcases cd_pres p v2 with ⟨j, hj, e2, hq⟩ | hb
      · subst e2
        refine cx_pair_d e hi hp hj hq ?_
        refine br_f cx_10 ?_
        by_cases z : lw_bz v3 = 0
        · refine br_t z ⟨cx_in hi, cx_in hi, fun a ea => ?_⟩
          refine br_f e (cy_is_T R hi hp ?_)
          refine br_f cx_10 (cy_is_T R hj hq ?_)
          refine br_f cx_10 (br_t z ⟨cx_in hi, cx_in hi, fun b eb => ⟨rfl, ?_⟩⟩)
          rw [ea, eb, cx_cp hi]
          exact cd_rel _ (cd_R_off R hi hp hj) hw
        · refine br_f z ⟨cx_in hi, cx_in hi, fun a ea => ?_⟩
          refine br_f e (cy_is_T R hi hp ?_)
          refine br_f cx_10 (cy_is_T R hj hq ?_)
          refine br_f cx_10 (br_f z ⟨cx_in hi, cx_in hi, fun b eb => ⟨rfl, ?_⟩⟩)
          rw [ea, eb, cx_cp hi]
          exact cd_rel _ (cd_R_on R hi hp hj hq) hw
      · refine cx_pair_c e hi hp hb ?_
        refine br_t rfl ?_
        refine br_f e (cy_is_T R hi hp ?_)
        refine br_f cx_10 (cy_is_F R hb ?_)
        exact br_t rfl ⟨rfl, cd_rel _ R hw⟩
    · refine cx_pair_b e ha ?_
      refine br_t rfl ?_
      refine br_f e (cy_is_F R ha ?_)
      exact br_t rfl ⟨rfl, cd_rel _ R hw⟩
theorem i_vc_undertakings {k : Nat} {u : SX} {v : SY} (I : i_Rel k u v) (hk : k + 4 ≤ 2048) : wpX_undertakings (fun r => wpY_undertakings (fun r' => r' = r ∧ i_Rel (k + 4) u v) v) u := by
  obtain ⟨p, w, n, t, m, rfl, rfl, R, hw⟩ := I
  unfold wpX_undertakings
  dsimp only
  exact cy_un R ⟨rfl, cd_rel _ R hw⟩
theorem i_vc_closed {k : Nat} {u : SX} {v : SY} (I : i_Rel k u v) (hk : k + 4 ≤ 2048) (v1 : Int32) : wpX_closed (fun r => wpY_closed (fun r' => r' = r ∧ i_Rel (k + 4) u v) v v1) u v1 := by
  obtain ⟨p, w, n, t, m, rfl, rfl, R, hw⟩ := I
  refine cx_closed ?_
  exact cy_closed R ⟨rfl, cd_rel _ R hw⟩
theorem i_vc_closure {k : Nat} {u : SX} {v : SY} (I : i_Rel k u v) (hk : k + 4 ≤ 2048) (v1 : Int32) : wpX_closure (fun r => wpY_closure (fun r' => r' = r ∧ i_Rel (k + 4) u v) v v1) u v1 := by
  obtain ⟨p, w, n, t, m, rfl, rfl, R, hw⟩ := I
  refine cx_closure ?_
  exact cy_closure R ⟨rfl, cd_rel _ R hw⟩
theorem i_vc_best {k : Nat} {u : SX} {v : SY} (I : i_Rel k u v) (hk : k + 4 ≤ 2048) : wpX_best (fun r => wpY_best (fun r' => r' = r ∧ i_Rel (k + 4) u v) v) u := by
  obtain ⟨p, w, n, t, m, rfl, rfl, R, hw⟩ := I
  refine cx_best ?_
  exact cy_best R ⟨rfl, cd_rel _ R hw⟩
theorem i_vc_leastBest {k : Nat} {u : SX} {v : SY} (I : i_Rel k u v) (hk : k + 4 ≤ 2048) : wpX_leastBest (fun r => wpY_leastBest (fun r' => r' = r ∧ i_Rel (k + 4) u v) v) u := by
  obtain ⟨p, w, n, t, m, rfl, rfl, R, hw⟩ := I
  refine cx_least ?_
  exact cy_least R ⟨rfl, cd_rel _ R hw⟩
theorem i_vc_greatestBest {k : Nat} {u : SX} {v : SY} (I : i_Rel k u v) (hk : k + 4 ≤ 2048) : wpX_greatestBest (fun r => wpY_greatestBest (fun r' => r' = r ∧ i_Rel (k + 4) u v) v) u := by
  obtain ⟨p, w, n, t, m, rfl, rfl, R, hw⟩ := I
  refine cx_great ?_
  exact cy_great R ⟨rfl, cd_rel _ R hw⟩
theorem i_vc_choices {k : Nat} {u : SX} {v : SY} (I : i_Rel k u v) (hk : k + 4 ≤ 2048) : wpX_choices (fun r => wpY_choices (fun r' => r' = r ∧ i_Rel (k + 4) u v) v) u := by
  obtain ⟨p, w, n, t, m, rfl, rfl, R, hw⟩ := I
  refine cx_choices ?_
  exact cy_choices R ⟨rfl, cd_rel _ R hw⟩
theorem cx_with_T {post : Int32 → Prop} {p : Int32} {w n : Nat → Int32} {j : Nat} (hj : j < 9) (hp : bt p j = true) (h : post (cd_G p w n (cd_one j) 0)) : wpX_bestWith post (p, w, n) (nI j) := by
  unfold wpX_bestWith
  dsimp only
  refine cx_isP_T hj hp ?_
  exact br_f cx_10 (cx_greatest h)
theorem cy_with_T {post : Int32 → Prop} {p : Int32} {w n t m : Nat → Int32} (R : cd_R p n t m) {j : Nat} (hj : j < 9) (hp : bt p j = true) (h : post (cd_G p w n (cd_one j) 0)) : wpY_bestWith post (t, w, m) (nI j) := by
  unfold wpY_bestWith
  dsimp only
  refine cy_is_T R hj hp ?_
  exact br_f cx_10 (cy_greatest R h)
theorem i_vc_bestWith {k : Nat} {u : SX} {v : SY} (I : i_Rel k u v) (hk : k + 4 ≤ 2048) (v1 : Int32) : wpX_bestWith (fun r => wpY_bestWith (fun r' => r' = r ∧ i_Rel (k + 4) u v) v v1) u v1 := by
  obtain ⟨p, w, n, t, m, rfl, rfl, R, hw⟩ := I
  rcases cd_pres p v1 with ⟨j, hj, e, hp⟩ | ha
  · subst e
    refine cx_with_T hj hp ?_
    exact cy_with_T R hj hp ⟨rfl, cd_rel _ R hw⟩
  · unfold wpX_bestWith wpY_bestWith
    dsimp only
    refine cx_isP_F ha ?_
    refine br_t rfl (cy_is_F R ha ?_)
    exact br_t rfl ⟨rfl, cd_rel _ R hw⟩
theorem cx_without_T {post : Int32 → Prop} {p : Int32} {w n : Nat → Int32} {j : Nat} (hj : j < 9) (hp : bt p j = true) (h : post (cd_G p w n 0 (cd_one j))) : wpX_bestWithout post (p, w, n) (nI j) := by
  unfold wpX_bestWithout
  dsimp only
  refine cx_isP_T hj hp ?_
  refine br_f cx_10 ?_
  exact cx_greatest h
theorem cx_without_F {post : Int32 → Prop} {p : Int32} {w n : Nat → Int32} {x : Int32} (hx : ∀ k, k < 9 → x = nI k → bt p k = false) (h : post (cd_G p w n 0 0)) : wpX_bestWithout post (p, w, n) x := by
  unfold wpX_bestWithout
  dsimp only
  refine cx_isP_F hx ?_
  refine br_t rfl ?_
  exact cx_greatest h
theorem cy_without_I {post : Int32 → Prop} {p : Int32} {w n t m : Nat → Int32} (R : cd_R p n t m) {j : Nat} (hj : j < 9) (h : post (cd_G p w n 0 (cd_one j))) : wpY_bestWithout post (t, w, m) (nI j) := by
  refine br_f (cx_0le hj) (br_f (cx_9f hj) ?_)
  exact cy_greatest R h
theorem i_vc_bestWithout {k : Nat} {u : SX} {v : SY} (I : i_Rel k u v) (hk : k + 4 ≤ 2048) (v1 : Int32) : wpX_bestWithout (fun r => wpY_bestWithout (fun r' => r' = r ∧ i_Rel (k + 4) u v) v v1) u v1 := by
  obtain ⟨p, w, n, t, m, rfl, rfl, R, hw⟩ := I
  rcases cd_pres p v1 with ⟨j, hj, e, hp⟩ | ha
  · subst e
    refine cx_without_T hj hp ?_
    exact cy_without_I R hj ⟨rfl, cd_rel _ R hw⟩
  · refine cx_without_F ha ?_
    rcases cd_ix v1 with h0 | ⟨h0, h9⟩ | ⟨j, hj, e⟩
    · refine br_t h0 ?_
      exact cy_greatest R ⟨rfl, cd_rel _ R hw⟩
    · refine br_f h0 (br_t h9 ?_)
      exact cy_greatest R ⟨rfl, cd_rel _ R hw⟩
    · subst e
      refine cy_without_I R hj ⟨?_, cd_rel _ R hw⟩
      exact cd_G_absent (by omega) (ha j hj rfl)
end
section
theorem cd_upd2 {a : Nat → Int32} {u : Nat} {x y : Int32} : upd (upd a u x) u y = upd a u y := by
  funext j
  by_cases e : j = u
  · rw [e, pk_us, pk_us]
  · rw [pk_un e, pk_un e, pk_un e]
/-- what the threshold is, before it is cut to -50 .. 51 -/
def cd_TH (p : Int32) (w n : Nat → Int32) (j : Nat) : Int := (cd_G p w n 0 (cd_one j)).toInt - ((cd_G p w n (cd_one j) 0).toInt - (w j).toInt)
theorem cy_th25 {post : Int32 → SY → Prop} {p : Int32} {w n t m : Nat → Int32} (R : cd_R p n t m) (hw : cd_W w) {j : Nat} (hj : j < 9) (hp : bt p j = true) {r : Int32} (hr : r.toInt = min 51 (max (cd_TH p w n j) (-50))) (h : post r (t, w, m)) : ∀ i : Nat, i ≤ 101 → ∀ (l x : Int32) (a : Nat → Int32), x.toInt = (i : Int) - 51 → l.toInt = min 51 (max (cd_TH p w n j) ((i : Int) - 50)) → (∀ z, upd a j z = upd w j z) → wY_threshold_25 post (nI j) (w j) (i + 1) l x t a m := by
  intro i
  induction i with
  | zero =>
    intro _ l x a hx hl ha
    have h0 : x < (-50) := by
      rw [Int32.lt_iff_toInt_lt, hx, show (-50 : Int32).toInt = -50 from by decide]
      omega
    refine br_t h0 ⟨cx_in hj, fun b eb => ?_⟩
    have er : l = r := by
      apply Int32.toInt_inj.mp
      rw [hl, hr]
      rfl
    rw [eb, cx_cp hj, ha, er]
    have ew : upd w j (w j) = w := by
      funext z
      by_cases e : z = j
      · rw [e, pk_us]
      · rw [pk_un e]
    rw [ew]
    exact h
  | succ i ih =>
    intro hi l x a hx hl ha
    have h0 : ¬ x < (-50) := by
      rw [Int32.lt_iff_toInt_lt, hx, show (-50 : Int32).toInt = -50 from by decide]
      omega
    refine br_f h0 ⟨cx_in hj, fun b eb => ?_⟩
    rw [cx_cp hj, ha] at eb
    subst eb
    refine cy_with_T R hj hp ?_
    refine cy_best R ?_
    have th := cd_th R hw hj hp x (by omega) (by omega)
    have hn : ∀ y : Int32, y = x + (-1) → y.toInt = (i : Int) - 51 := by
      intro y ey
      have e1 : (-1 : Int32).toInt = -1 := by decide
      rw [ey, cd_addI (by rw [e1]; omega) (by rw [e1]; omega), e1, hx]
      omega
    have hu : ∀ z, upd (upd w j x) j z = upd w j z := fun z => cd_upd2
    by_cases c : cd_G p (upd w j x) n (cd_one j) 0 = cd_G p (upd w j x) n 0 0
    · refine br_t c (fun y ey => ih (by omega) _ y _ (hn y ey) ?_ hu)
      have c' : cd_TH p w n j ≤ x.toInt := th.mp c
      omega
    · refine br_f c (fun y ey => ih (by omega) _ y _ (hn y ey) ?_ hu)
      have c' : ¬ cd_TH p w n j ≤ x.toInt := fun z => c (th.mpr z)
      omega
theorem cy_th {post : Int32 → SY → Prop} {p : Int32} {w n t m : Nat → Int32} (R : cd_R p n t m) (hw : cd_W w) {j : Nat} (hj : j < 9) (hp : bt p j = true) {r : Int32} (hr : r.toInt = min 51 (max (cd_TH p w n j) (-50))) (h : post r (t, w, m)) : wpY_threshold post (t, w, m) (nI j) := by
  unfold wpY_threshold
  dsimp only
  refine cy_is_T R hj hp ?_
  refine br_f cx_10 ⟨cx_in hj, fun y ey => ?_⟩
  rw [cx_cp hj] at ey
  subst ey
  refine ⟨102, cy_th25 R hw hj hp hr h 101 (by omega) 51 50 w (by decide) ?_ (fun z => rfl)⟩
  rw [show (51 : Int32).toInt = 51 from by decide]
  omega
theorem i_vc_threshold {k : Nat} {u : SX} {v : SY} (I : i_Rel k u v) (hk : k + 4 ≤ 2048) (v1 : Int32) : wpX_threshold (fun r => wpY_threshold (fun r' v' => r' = r ∧ i_Rel (k + 4) u v') v v1) u v1 := by
  obtain ⟨p, w, n, t, m, rfl, rfl, R, hw⟩ := I
  rcases cd_pres p v1 with ⟨j, hj, e, hp⟩ | ha
  · subst e
    unfold wpX_threshold
    dsimp only
    refine cx_isP_T hj hp ?_
    refine br_f cx_10 ?_
    refine cx_with_T hj hp ?_
    refine ⟨cx_in hj, fun y ey => ?_⟩
    refine cx_without_T hj hp ?_
    intro z ez
    rw [cx_cp hj] at ey
    obtain ⟨_, a1, a2⟩ := cd_G_Mx hw (cd_q_with R hj hp)
    obtain ⟨_, b1, b2⟩ := cd_G_Mx hw (cd_q_without (p := p) (n := n) (b := cd_one j))
    obtain ⟨w1, w2⟩ := hw j hj
    have hy : y.toInt = (cd_G p w n (cd_one j) 0).toInt - (w j).toInt := by
      rw [ey]
      exact cd_subI (by omega) (by omega)
    have hz : z.toInt = cd_TH p w n j := by
      rw [ez, cd_subI (by omega) (by omega), hy]
      rfl
    have m50 : (-50 : Int32).toInt = -50 := by decide
    have p50 : (50 : Int32).toInt = 50 := by decide
    have p51 : (51 : Int32).toInt = 51 := by decide
    by_cases c : (-50) ≤ z
    · refine br_t c ?_
      rw [Int32.le_iff_toInt_le, m50] at c
      by_cases d : z ≤ 50
      · refine br_t d (cy_th R hw hj hp (r := z) ?_ ⟨rfl, cd_rel _ R hw⟩)
        rw [Int32.le_iff_toInt_le, p50] at d
        omega
      · refine br_f d (cy_th R hw hj hp (r := 51) ?_ ⟨rfl, cd_rel _ R hw⟩)
        rw [Int32.le_iff_toInt_le, p50] at d
        omega
    · refine br_f c (cy_th R hw hj hp (r := -50) ?_ ⟨rfl, cd_rel _ R hw⟩)
      rw [Int32.le_iff_toInt_le, m50] at c
      omega
  · unfold wpX_threshold wpY_threshold
    dsimp only
    refine cx_isP_F ha ?_
    refine br_t rfl (cy_is_F R ha ?_)
    exact br_t rfl ⟨rfl, cd_rel _ R hw⟩
theorem i_vc_burden {k : Nat} {u : SX} {v : SY} (I : i_Rel k u v) (hk : k + 4 ≤ 2048) (v1 : Int32) (v2 : Int32) : wpX_burden (fun r u' => wpY_burden (fun r' v' => r' = r ∧ i_Rel (k + 4) u' v') v v1 v2) u v1 v2 := by
  obtain ⟨p, w, n, t, m, rfl, rfl, R, hw⟩ := I
  unfold wpX_burden wpY_burden
  dsimp only
  by_cases e : v1 = v2
  · refine cx_pair_a e ?_
    exact br_t rfl (br_t e ⟨rfl, cd_rel _ R hw⟩)
  · rcases cd_pres p v1 with ⟨i, hi, e1, hp⟩ | ha
    · subst e1
      rcases cd_pres p v2 with ⟨j, hj, e2, hq⟩ | hb
      · subst e2
        have R' := cd_R_off R hi hp hj
        refine cx_pair_d e hi hp hj hq ?_
        refine br_f cx_10 ⟨cx_in hi, fun y ey => ?_⟩
        rw [cx_cp hi] at ey
        subst ey
        refine cx_best ?_
        refine ⟨cx_in hi, fun a ea => ?_⟩
        rw [cx_cp hi] at ea
        subst ea
        refine cx_best ?_
        refine ⟨cx_in hi, fun b eb => ?_⟩
        rw [cx_cp hi, cd_back] at eb
        subst eb
        refine br_f e (cy_is_T R hi hp ?_)
        refine br_f cx_10 (cy_is_T R hj hq ?_)
        refine br_f cx_10 ⟨cx_in hi, fun y ey => ?_⟩
        rw [cx_cp hi] at ey
        subst ey
        refine cy_best R ?_
        refine ⟨cx_in hi, fun a ea => ?_⟩
        rw [cx_cp hi] at ea
        subst ea
        refine cy_best R' ?_
        refine ⟨cx_in hi, fun c ec => ?_⟩
        rw [cx_cp hi, cd_back] at ec
        subst ec
        exact ⟨rfl, cd_rel _ R hw⟩
      · refine cx_pair_c e hi hp hb ?_
        refine br_t rfl ?_
        refine br_f e (cy_is_T R hi hp ?_)
        refine br_f cx_10 (cy_is_F R hb ?_)
        exact br_t rfl ⟨rfl, cd_rel _ R hw⟩
    · refine cx_pair_b e ha ?_
      refine br_t rfl ?_
      refine br_f e (cy_is_F R ha ?_)
      exact br_t rfl ⟨rfl, cd_rel _ R hw⟩
end
