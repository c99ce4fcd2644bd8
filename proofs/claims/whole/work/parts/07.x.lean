theorem cx_9f {i : Nat} (h : i < 9) : ¬ (9 : Int32) ≤ nI i := nI_ge (b := 9) h (by decide)
theorem cx_512f {i : Nat} (h : i < 512) : ¬ (512 : Int32) ≤ nI i := nI_ge (b := 512) h (by decide)
theorem cx_9t : (9 : Int32) ≤ nI 9 := by decide
theorem cx_512t : (512 : Int32) ≤ nI 512 := by decide
theorem cx_10 : ¬ (1 : Int32) = 0 := by decide
theorem cx_cp {i : Nat} (h : i < 9) : (nI i).toNatClampNeg = i := nI_clamp (by omega)
theorem cx_in {i : Nat} (h : i < 9) : vp_in (nI i) 9 := vp_in_nI h (by omega)
theorem cx_isIn {post : Int32 → Prop} {k : Nat} {s : Int32} (hk : k < 32) (h : post (cd_bi (bt s k))) : wpX_isIn post (nI k) s := by
  by_cases c : bt s k = true
  · rw [cd_biT c] at h
    exact br_t ((cd_bit1 s hk).mpr c) h
  · rw [cd_biF c] at h
    exact br_f (fun e => c ((cd_bit1 s hk).mp e)) h
theorem cx_nb {post : Int32 → Prop} {p : Int32} {w n : Nat → Int32} {s : Int32} (h : post (cd_nb n s 9)) : wpX_neededBy post (p, w, n) s := by
  refine cd_loopS (fun f c a => wX_neededBy_4 post s p w n f a c) (fun i => cd_nb n s i) 9 0 rfl (fun f => br_t cx_9t h) (fun f i hi ih => ?_)
  refine br_f (cx_9f hi) (cx_isIn (by omega) ?_)
  by_cases c : bt s i = true
  · rw [cd_biT c]
    have e : cd_nb n s i ||| n (nI i).toNatClampNeg = cd_nb n s (i + 1) := by
      rw [cx_cp hi]
      exact (cd_foT (q := fun i => bt s i) (g := fun a i => a ||| n i) c).symm
    exact br_f cx_10 ⟨cx_in hi, fun a ea c ec => ih c a ec (ea.trans e)⟩
  · rw [cd_biF c]
    have e : cd_nb n s i = cd_nb n s (i + 1) := (cd_foF (q := fun i => bt s i) c).symm
    exact br_t rfl (fun c ec => ih c _ ec e)
theorem cx_wo {post : Int32 → Prop} {p : Int32} {w n : Nat → Int32} {s : Int32} (h : post (cd_wo w s 9)) : wpX_worthOf post (p, w, n) s := by
  refine cd_loopS (fun f c a => wX_worthOf_4 post s p w n f a c) (fun i => cd_wo w s i) 9 0 rfl (fun f => br_t cx_9t h) (fun f i hi ih => ?_)
  refine br_f (cx_9f hi) (cx_isIn (by omega) ?_)
  by_cases c : bt s i = true
  · rw [cd_biT c]
    have e : cd_wo w s i + w (nI i).toNatClampNeg = cd_wo w s (i + 1) := by
      rw [cx_cp hi]
      exact (cd_foT (q := fun i => bt s i) (g := fun a i => a + w i) c).symm
    exact br_f cx_10 ⟨cx_in hi, fun a ea c ec => ih c a ec (ea.trans e)⟩
  · rw [cd_biF c]
    have e : cd_wo w s i = cd_wo w s (i + 1) := (cd_foF (q := fun i => bt s i) c).symm
    exact br_t rfl (fun c ec => ih c _ ec e)
theorem cx_closed {post : Int32 → Prop} {p : Int32} {w n : Nat → Int32} {s : Int32} (h : post (cd_bi (cd_cl p n s))) : wpX_closed post (p, w, n) s := by
  by_cases c : (s &&& (p ^^^ (-1))) = 0
  · refine br_t c (cx_nb ?_)
    by_cases d : (cd_nb n s 9 &&& (s ^^^ (-1))) = 0
    · have e : cd_cl p n s = true := by
        unfold cd_cl
        rw [decide_eq_true c, decide_eq_true d]; rfl
      rw [cd_biT e] at h
      exact br_t d h
    · have e : ¬ cd_cl p n s = true := by
        unfold cd_cl
        rw [decide_eq_false d, Bool.and_false]; decide
      rw [cd_biF e] at h
      exact br_f d h
  · have e : ¬ cd_cl p n s = true := by
      unfold cd_cl
      rw [decide_eq_false c, Bool.false_and]; decide
    rw [cd_biF e] at h
    exact br_f c h
theorem cx_cw {post : Int32 → Prop} {p : Int32} {w n : Nat → Int32} {i : Nat} {g : Int32} (h : post (cd_bi (cd_cw p w n g i))) : wpX_isClosedWithWorth post (p, w, n) (nI i) g := by
  unfold wpX_isClosedWithWorth
  dsimp only
  refine cx_closed ?_
  unfold cd_cw at h
  by_cases c : cd_cl p n (nI i) = true
  · rw [cd_biT c]
    refine br_f cx_10 (cx_wo ?_)
    by_cases d : cd_wo w (nI i) 9 = g
    · rw [c, decide_eq_true d] at h
      exact br_t d h
    · rw [c, decide_eq_false d] at h
      exact br_f d h
  · rw [cd_biF c]
    rw [cd_nf c, Bool.false_and] at h
    exact br_t rfl h
theorem cx_greatest {post : Int32 → Prop} {p : Int32} {w n : Nat → Int32} {a b : Int32} (h : post (cd_G p w n a b)) : wpX_greatestWorth post (p, w, n) a b := by
  refine cd_loopS (fun f c z => wX_greatestWorth_6 post a b p w n f z c) (fun i => cd_gm (cd_q p n a b) (fun i => cd_wo w (nI i) 9) i) 512 (-100000) rfl (fun f => br_t cx_512t h) (fun f i hi ih => ?_)
  refine br_f (cx_512f hi) ?_
  have eF : ¬ cd_q p n a b i = true → cd_gm (cd_q p n a b) (fun i => cd_wo w (nI i) 9) i = cd_gm (cd_q p n a b) (fun i => cd_wo w (nI i) 9) (i + 1) := fun hq => (cd_foF (q := cd_q p n a b) hq).symm
  have eT : cd_q p n a b i = true → (if cd_gm (cd_q p n a b) (fun i => cd_wo w (nI i) 9) i < cd_wo w (nI i) 9 then cd_wo w (nI i) 9 else cd_gm (cd_q p n a b) (fun i => cd_wo w (nI i) 9) i) = cd_gm (cd_q p n a b) (fun i => cd_wo w (nI i) 9) (i + 1) := fun hq => (cd_foT (q := cd_q p n a b) (g := fun z i => if z < cd_wo w (nI i) 9 then cd_wo w (nI i) 9 else z) hq).symm
  have nq : ¬ cd_al a b (nI i) = true → ¬ cd_q p n a b i = true := by
    intro na hq
    unfold cd_q at hq
    rw [Bool.and_eq_true] at hq
    exact na hq.1
  by_cases c1 : (nI i &&& a) = a
  · refine br_t c1 ?_
    by_cases c2 : (nI i &&& b) = 0
    · refine br_t c2 (br_f cx_10 (cx_closed ?_))
      have al : cd_al a b (nI i) = true := by
        rw [cd_al_iff, cd_andC b]
        exact ⟨cd_subA.mp c1, c2⟩
      by_cases c : cd_cl p n (nI i) = true
      · have hq : cd_q p n a b i = true := by
          unfold cd_q
          rw [al, c]; rfl
        rw [cd_biT c]
        refine br_f cx_10 (cx_wo ?_)
        by_cases le : cd_wo w (nI i) 9 ≤ cd_gm (cd_q p n a b) (fun i => cd_wo w (nI i) 9) i
        · refine br_t le (fun c ec => ih c _ ec ?_)
          have e := eT hq
          rw [if_neg (Int32.not_lt.mpr le)] at e
          exact e
        · refine br_f le (fun c ec => ih c _ ec ?_)
          have e := eT hq
          rw [if_pos (Int32.not_le.mp le)] at e
          exact e
      · have hq : ¬ cd_q p n a b i = true := by
          unfold cd_q
          rw [cd_nf c, Bool.and_false]; decide
        rw [cd_biF c]
        exact br_t rfl (fun c ec => ih c _ ec (eF hq))
    · have na : ¬ cd_al a b (nI i) = true := by
        rw [cd_al_iff, cd_andC b]
        exact fun h => c2 h.2
      exact br_f c2 (br_t rfl (fun c ec => ih c _ ec (eF (nq na))))
  · have na : ¬ cd_al a b (nI i) = true := by
      rw [cd_al_iff]
      exact fun h => c1 (cd_subA.mpr h.1)
    exact br_f c1 (br_t rfl (fun c ec => ih c _ ec (eF (nq na))))
theorem cx_best {post : Int32 → Prop} {p : Int32} {w n : Nat → Int32} (h : post (cd_G p w n 0 0)) : wpX_best post (p, w, n) := by
  unfold wpX_best
  dsimp only
  exact cx_greatest h
def cd_least (p : Int32) (w n : Nat → Int32) : Int32 := cd_fo (cd_cw p w n (cd_G p w n 0 0)) (fun a i => a &&& nI i) p 512
def cd_great (p : Int32) (w n : Nat → Int32) : Int32 := cd_fo (cd_cw p w n (cd_G p w n 0 0)) (fun a i => a ||| nI i) 0 512
def cd_choices (p : Int32) (w n : Nat → Int32) : Int32 := cd_fo (cd_cw p w n (cd_G p w n 0 0)) (fun a _ => a + 1) 0 512
theorem cx_least {post : Int32 → Prop} {p : Int32} {w n : Nat → Int32} (h : post (cd_least p w n)) : wpX_leastBest post (p, w, n) := by
  unfold wpX_leastBest
  dsimp only
  refine cx_best ?_
  refine cd_loopS (fun f c z => wX_leastBest_12 post (cd_G p w n 0 0) p w n f z c) (fun i => cd_fo (cd_cw p w n (cd_G p w n 0 0)) (fun a i => a &&& nI i) p i) 512 p rfl (fun f => br_t cx_512t h) (fun f i hi ih => ?_)
  refine br_f (cx_512f hi) (cx_cw ?_)
  by_cases c : cd_cw p w n (cd_G p w n 0 0) i = true
  · rw [cd_biT c]
    exact br_f cx_10 (fun a ea c' ec => ih c' a ec (ea.trans (cd_foT (g := fun a i => a &&& nI i) c).symm))
  · rw [cd_biF c]
    exact br_t rfl (fun c' ec => ih c' _ ec (cd_foF (g := fun a i => a &&& nI i) c).symm)
theorem cx_great {post : Int32 → Prop} {p : Int32} {w n : Nat → Int32} (h : post (cd_great p w n)) : wpX_greatestBest post (p, w, n) := by
  unfold wpX_greatestBest
  dsimp only
  refine cx_best ?_
  refine cd_loopS (fun f c z => wX_greatestBest_9 post (cd_G p w n 0 0) p w n f z c) (fun i => cd_fo (cd_cw p w n (cd_G p w n 0 0)) (fun a i => a ||| nI i) 0 i) 512 0 rfl (fun f => br_t cx_512t h) (fun f i hi ih => ?_)
  refine br_f (cx_512f hi) (cx_cw ?_)
  by_cases c : cd_cw p w n (cd_G p w n 0 0) i = true
  · rw [cd_biT c]
    exact br_f cx_10 (fun a ea c' ec => ih c' a ec (ea.trans (cd_foT (g := fun a i => a ||| nI i) c).symm))
  · rw [cd_biF c]
    exact br_t rfl (fun c' ec => ih c' _ ec (cd_foF (g := fun a i => a ||| nI i) c).symm)
theorem cx_choices {post : Int32 → Prop} {p : Int32} {w n : Nat → Int32} (h : post (cd_choices p w n)) : wpX_choices post (p, w, n) := by
  unfold wpX_choices
  dsimp only
  refine cx_best ?_
  refine cd_loopS (fun f c z => wX_choices_9 post (cd_G p w n 0 0) p w n f z c) (fun i => cd_fo (cd_cw p w n (cd_G p w n 0 0)) (fun a _ => a + 1) 0 i) 512 0 rfl (fun f => br_t cx_512t h) (fun f i hi ih => ?_)
  refine br_f (cx_512f hi) (cx_cw ?_)
  by_cases c : cd_cw p w n (cd_G p w n 0 0) i = true
  · rw [cd_biT c]
    exact br_f cx_10 (fun a ea c' ec => ih c' a ec (ea.trans (cd_foT (g := fun a _ => a + 1) c).symm))
  · rw [cd_biF c]
    exact br_t rfl (fun c' ec => ih c' _ ec (cd_foF (g := fun a _ => a + 1) c).symm)
theorem cx_closure {post : Int32 → Prop} {p : Int32} {w n : Nat → Int32} {s : Int32} (h : post (cd_gr n (s &&& p) 9)) : wpX_closure post (p, w, n) s := by
  refine nm_e ?_
  refine cd_loopS (fun f c a => wX_closure_9 post p w n f a c) (fun i => cd_gr n (s &&& p) i) 9 (s &&& p) rfl (fun f => br_t cx_9t h) (fun f i hi ih => ?_)
  refine br_f (cx_9f hi) (cx_nb ?_)
  exact fun a ea c ec => ih c a ec ea
theorem cd_pres (p x : Int32) : (∃ k, k < 9 ∧ x = nI k ∧ bt p k = true) ∨ ∀ k, k < 9 → x = nI k → bt p k = false := by
  by_cases h : ∃ k, k < 9 ∧ x = nI k ∧ bt p k = true
  · exact Or.inl h
  · refine Or.inr (fun k hk e => cd_nf (fun c => h ⟨k, hk, e, c⟩))
theorem cx_0le {k : Nat} (h : k < 9) : ¬ nI k < 0 := nI_pos (by omega)
theorem cd_ix (x : Int32) : x < 0 ∨ (¬ x < 0 ∧ (9 : Int32) ≤ x) ∨ ∃ k, k < 9 ∧ x = nI k := by
  by_cases h : x < 0
  · exact Or.inl h
  · by_cases h9 : (9 : Int32) ≤ x
    · exact Or.inr (Or.inl ⟨h, h9⟩)
    · obtain ⟨j, hj, e⟩ := nI_of h
      refine Or.inr (Or.inr ⟨j, ?_, e⟩)
      rw [e] at h9
      apply Classical.byContradiction
      intro hn
      exact h9 (nI_le (a := 9) (by omega) hj)
theorem cx_isP_T {post : Int32 → Prop} {p : Int32} {w n : Nat → Int32} {k : Nat} (hk : k < 9) (hp : bt p k = true) (h : post 1) : wpX_isPresent post (p, w, n) (nI k) := by
  refine br_f (cx_0le hk) (br_f (cx_9f hk) (cx_isIn (by omega) ?_))
  rw [cd_biT hp]
  exact br_f cx_10 h
theorem cx_isP_F {post : Int32 → Prop} {p : Int32} {w n : Nat → Int32} {x : Int32} (hx : ∀ k, k < 9 → x = nI k → bt p k = false) (h : post 0) : wpX_isPresent post (p, w, n) x := by
  rcases cd_ix x with h0 | ⟨h0, h9⟩ | ⟨k, hk, e⟩
  · exact br_t h0 h
  · exact br_f h0 (br_t h9 h)
  · subst e
    refine br_f (cx_0le hk) (br_f (cx_9f hk) (cx_isIn (by omega) ?_))
    rw [cd_biF (cd_fn (hx k hk rfl))]
    exact br_t rfl h
