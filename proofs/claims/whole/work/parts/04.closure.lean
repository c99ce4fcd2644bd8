/-- X's rounds -/
def cd_gr (n : Nat → Int32) (s : Int32) : Nat → Int32
  | 0 => s
  | i + 1 => cd_gr n s i ||| cd_nb n (cd_gr n s i) 9
theorem cd_gr_up {n : Nat → Int32} {s : Int32} (i : Nat) : cd_S (cd_gr n s i) (cd_gr n s (i + 1)) := by
  intro j hj
  show bt (cd_gr n s i ||| cd_nb n (cd_gr n s i) 9) j = true
  rw [b_or, hj]; rfl
theorem cd_gr_s {n : Nat → Int32} {s : Int32} : ∀ i, cd_S s (cd_gr n s i) := by
  intro i
  induction i with
  | zero => exact fun j hj => hj
  | succ i ih => exact fun j hj => cd_gr_up i j (ih j hj)
theorem cd_gr_in {n : Nat → Int32} {s c : Int32} (hs : cd_S s c) (hc : ∀ u, u < 9 → bt c u = true → cd_S (n u) c) : ∀ i, cd_S (cd_gr n s i) c := by
  intro i
  induction i with
  | zero => exact hs
  | succ i ih =>
    intro j hj
    have hj2 : bt (cd_gr n s i ||| cd_nb n (cd_gr n s i) 9) j = true := hj
    rw [b_or, Bool.or_eq_true] at hj2
    rcases hj2 with h | h
    · exact ih j h
    · obtain ⟨u, hu, h1, h2⟩ := (cd_nb_bt n _ j 9).mp h
      exact hc u hu (ih u h1) j h2
def cd_ct (x : Int32) : Nat → Nat
  | 0 => 0
  | i + 1 => cd_ct x i + (if bt x i = true then 1 else 0)
theorem cd_ctT {x : Int32} {i : Nat} (h : bt x i = true) : cd_ct x (i + 1) = cd_ct x i + 1 := by
  show cd_ct x i + (if bt x i = true then 1 else 0) = _
  rw [if_pos h]
theorem cd_ctF {x : Int32} {i : Nat} (h : ¬ bt x i = true) : cd_ct x (i + 1) = cd_ct x i := by
  show cd_ct x i + (if bt x i = true then 1 else 0) = _
  rw [if_neg h]; rfl
theorem cd_ct_full {x : Int32} : ∀ k, cd_ct x k ≤ k ∧ (k ≤ cd_ct x k → ∀ j, j < k → bt x j = true) := by
  intro k
  induction k with
  | zero => exact ⟨Nat.le_refl 0, fun _ j hj => absurd hj (Nat.not_lt_zero j)⟩
  | succ k ih =>
    obtain ⟨h1, h2⟩ := ih
    by_cases c : bt x k = true
    · rw [cd_ctT c]
      refine ⟨by omega, fun h j hj => ?_⟩
      by_cases e : j = k
      · rw [e]; exact c
      · exact h2 (by omega) j (by omega)
    · rw [cd_ctF c]
      exact ⟨by omega, fun h => by omega⟩
theorem cd_ct_mono {x y : Int32} (h : cd_S x y) : ∀ k, cd_ct x k ≤ cd_ct y k ∧ (∀ j, j < k → bt y j = true → bt x j = false → cd_ct x k < cd_ct y k) := by
  intro k
  induction k with
  | zero => exact ⟨Nat.le_refl 0, fun j hj => absurd hj (Nat.not_lt_zero j)⟩
  | succ k ih =>
    obtain ⟨h1, h2⟩ := ih
    by_cases cx : bt x k = true
    · rw [cd_ctT cx, cd_ctT (h k cx)]
      refine ⟨by omega, fun j hj hy hx => ?_⟩
      by_cases e : j = k
      · subst e; rw [cx] at hx; exact absurd hx (by decide)
      · have := h2 j (by omega) hy hx
        omega
    · rw [cd_ctF cx]
      by_cases cy : bt y k = true
      · rw [cd_ctT cy]
        exact ⟨by omega, fun _ _ _ _ => by omega⟩
      · rw [cd_ctF cy]
        refine ⟨h1, fun j hj hy hx => ?_⟩
        by_cases e : j = k
        · subst e; exact absurd hy cy
        · exact h2 j (by omega) hy hx
theorem cd_gr_ct {n : Nat → Int32} {s p : Int32} (hp : ∀ i, bt p i = true → i < 9) (hn : ∀ i, i < 9 → cd_S (n i) p) : ∀ i, cd_S (cd_nb n (cd_gr n s i) 9) (cd_gr n s i) ∨ i ≤ cd_ct (cd_gr n s i) 9 := by
  intro i
  induction i with
  | zero => exact Or.inr (Nat.zero_le _)
  | succ i ih =>
    by_cases fx : cd_S (cd_nb n (cd_gr n s i) 9) (cd_gr n s i)
    · have e : cd_gr n s (i + 1) = cd_gr n s i := by
        apply cd_extT
        intro j
        show bt (cd_gr n s i ||| cd_nb n (cd_gr n s i) 9) j = true ↔ _
        rw [b_or, Bool.or_eq_true]
        exact ⟨fun h => h.elim id (fx j), Or.inl⟩
      rw [e]
      exact Or.inl fx
    · have hi : i ≤ cd_ct (cd_gr n s i) 9 := ih.resolve_left fx
      have : ∃ j, bt (cd_nb n (cd_gr n s i) 9) j = true ∧ ¬ bt (cd_gr n s i) j = true := by
        apply Classical.byContradiction
        intro no
        apply fx
        intro j hj
        apply Classical.byContradiction
        intro nj
        exact no ⟨j, hj, nj⟩
      obtain ⟨j, hj, nj⟩ := this
      obtain ⟨u, hu, _, h2⟩ := (cd_nb_bt n _ j 9).mp hj
      have hj9 : j < 9 := hp j (hn u hu j h2)
      have hy : bt (cd_gr n s (i + 1)) j = true := by
        show bt (cd_gr n s i ||| cd_nb n (cd_gr n s i) 9) j = true
        rw [b_or, hj, Bool.or_true]
      have := (cd_ct_mono (cd_gr_up (n := n) (s := s) i) 9).2 j hj9 hy (cd_nf nj)
      exact Or.inr (by omega)
/-- nine rounds are enough -/
theorem cd_gr_cl {n : Nat → Int32} {s p : Int32} (hp : ∀ i, bt p i = true → i < 9) (hn : ∀ i, i < 9 → cd_S (n i) p) (hs : cd_S s p) : cd_cl p n (cd_gr n s 9) = true := by
  have hin : cd_S (cd_gr n s 9) p := cd_gr_in hs (fun u hu _ => hn u hu) 9
  rw [cd_cl_iff]
  refine ⟨hin, fun u hu hb j hj => ?_⟩
  rcases cd_gr_ct (s := s) hp hn 9 with h | h
  · exact h j ((cd_nb_bt n _ j 9).mpr ⟨u, hu, hb, hj⟩)
  · exact (cd_ct_full 9).2 h j (hp j (hn u hu j hj))
/-- Y's way down from 511 -/
def cd_fi (q : Nat → Bool) : Nat → Int32 → Int32
  | 0, l => l
  | k + 1, l => cd_fi q k (if q k = true then nI k else l)
theorem cd_fi_no {q : Nat → Bool} : ∀ k l, (∀ j, j < k → ¬ q j = true) → cd_fi q k l = l := by
  intro k
  induction k with
  | zero => intro l _; rfl
  | succ k ih =>
    intro l h
    show cd_fi q k (if q k = true then nI k else l) = l
    rw [if_neg (h k (by omega))]
    exact ih l (fun j hj => h j (by omega))
theorem cd_fi_at {q : Nat → Bool} {r : Nat} (hr : q r = true) (hm : ∀ j, j < r → ¬ q j = true) : ∀ k l, r < k → cd_fi q k l = nI r := by
  intro k
  induction k with
  | zero => intro l h; omega
  | succ k ih =>
    intro l h
    show cd_fi q k (if q k = true then nI k else l) = nI r
    by_cases e : r = k
    · subst e
      rw [if_pos hr]
      exact cd_fi_no r (nI r) hm
    · exact ih _ (by omega)
/-- what Y's closure asks of a set -/
def cd_cq (p : Int32) (n : Nat → Int32) (s : Int32) (i : Nat) : Bool := cd_cl p n (nI i) && decide ((s &&& (nI i ^^^ (-1))) = 0)
theorem cd_closure {n : Nat → Int32} {s p : Int32} (hp : ∀ i, bt p i = true → i < 9) (hn : ∀ i, i < 9 → cd_S (n i) p) (hs : cd_S s p) : cd_fi (cd_cq p n s) 512 0 = cd_gr n s 9 := by
  have hc := cd_gr_cl hp hn hs
  have hin : cd_S (cd_gr n s 9) p := cd_gr_in hs (fun u hu _ => hn u hu) 9
  obtain ⟨r, hr, er⟩ := cd_small (x := cd_gr n s 9) (fun i hi => hp i (hin i hi))
  rw [er]
  refine cd_fi_at ?_ ?_ 512 0 hr
  · unfold cd_cq
    rw [← er, hc, Bool.true_and, decide_eq_true_iff, cd_sub]
    exact cd_gr_s 9
  · intro j hj hq
    unfold cd_cq at hq
    rw [Bool.and_eq_true, decide_eq_true_iff, cd_sub, cd_cl_iff] at hq
    have h := cd_gr_in hq.2 hq.1.2 9
    rw [er] at h
    have := cd_mono hr h
    omega
