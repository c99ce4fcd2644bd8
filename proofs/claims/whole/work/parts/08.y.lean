theorem cy_un {post : Int32 → Prop} {p : Int32} {w n t m : Nat → Int32} (R : cd_R p n t m) (h : post p) : wpY_undertakings post (t, w, m) := by
  rw [← cd_un_p R] at h
  refine cd_loopS (fun f c a => wY_undertakings_4 post t w m f a c) (fun i => cd_un t i) 9 0 rfl (fun f => br_t cx_9t h) (fun f i hi ih => ?_)
  refine br_f (cx_9f hi) ⟨cx_in hi, ?_⟩
  by_cases c : t i = 0
  · have c' : t (nI i).toNatClampNeg = 0 := by rw [cx_cp hi]; exact c
    have e : cd_un t i = cd_un t (i + 1) := (cd_foF (q := fun i => decide (¬ t i = 0)) (by simp [c])).symm
    exact br_t c' (fun c ec => ih c _ ec e)
  · have c' : ¬ t (nI i).toNatClampNeg = 0 := by rw [cx_cp hi]; exact c
    have e : cd_un t i ||| cd_one i = cd_un t (i + 1) := (cd_foT (q := fun i => decide (¬ t i = 0)) (g := fun a i => a ||| cd_one i) (by simp [c])).symm
    exact br_f c' (fun a ea c ec => ih c a ec (ea.trans e))
theorem cy_cl19 {post : Int32 → Prop} {w t m : Nat → Int32} {s : Int32} (b : Bool) (h : post (cd_bi (cd_ok m s b 9))) : ∃ f, wY_closed_19 post s t w m f (cd_bi b) 0 := by
  refine cd_loopS (fun f c a => wY_closed_19 post s t w m f a c) (fun i => cd_bi (cd_ok m s b i)) 9 (cd_bi b) rfl (fun f => br_t cx_9t ⟨cd_bin _, h⟩) (fun f i hi ih => ?_)
  refine br_f (cx_9f hi) ?_
  have ek : cd_ok m s b (i + 1) = (cd_ok m s b i && (!bt s i || decide ((m i &&& (s ^^^ (-1))) = 0))) := rfl
  by_cases c : cd_ok m s b i = true
  · have c0 : ¬ cd_bi (cd_ok m s b i) = 0 := cd_bi1.mpr c
    refine br_f c0 ?_
    by_cases d : bt s i = true
    · refine br_f (fun z => cd_fn ((cd_bit0 s (by omega)).mp z) d) ⟨cx_in hi, ?_⟩
      by_cases g : (m i &&& (s ^^^ (-1))) = 0
      · have g' : (m (nI i).toNatClampNeg &&& (s ^^^ (-1))) = 0 := by rw [cx_cp hi]; exact g
        have e : (1 : Int32) = cd_bi (cd_ok m s b (i + 1)) := by
          rw [ek, c, decide_eq_true g, Bool.or_true]; rfl
        exact br_t g' (fun c ec => ih c _ ec e)
      · have g' : ¬ (m (nI i).toNatClampNeg &&& (s ^^^ (-1))) = 0 := by rw [cx_cp hi]; exact g
        have e : (0 : Int32) = cd_bi (cd_ok m s b (i + 1)) := by
          rw [ek, c, decide_eq_false g, d]; rfl
        exact br_f g' (fun c ec => ih c _ ec e)
    · have e : (1 : Int32) = cd_bi (cd_ok m s b (i + 1)) := by
        rw [ek, c, cd_nf d]; rfl
      exact br_t ((cd_bit0 s (by omega)).mpr (cd_nf d)) (fun c ec => ih c _ ec e)
  · have c0 : cd_bi (cd_ok m s b i) = 0 := cd_biF c
    have e : (0 : Int32) = cd_bi (cd_ok m s b (i + 1)) := by
      rw [ek, cd_nf c]; rfl
    exact br_t c0 (fun c ec => ih c _ ec e)
theorem cy_closed {post : Int32 → Prop} {p : Int32} {w n t m : Nat → Int32} (R : cd_R p n t m) {s : Int32} (h : post (cd_bi (cd_cl p n s))) : wpY_closed post (t, w, m) s := by
  unfold wpY_closed
  dsimp only
  refine cy_un R ?_
  rw [← cd_ok_cl R s] at h
  by_cases c : (s &&& (p ^^^ (-1))) = 0
  · rw [decide_eq_true c] at h
    exact br_t c (cy_cl19 true h)
  · rw [decide_eq_false c] at h
    exact br_f c (cy_cl19 false h)
theorem cy_sum {post : Int32 → Prop} {w t m : Nat → Int32} {s : Int32} (h : post (cd_wo w s 9)) : wpY_sum post (t, w, m) s := by
  refine cd_loopS (fun f c a => wY_sum_4 post s t w m f a c) (fun i => cd_wo w s i) 9 0 rfl (fun f => br_t cx_9t h) (fun f i hi ih => ?_)
  refine br_f (cx_9f hi) ?_
  by_cases c : bt s i = true
  · have e : cd_wo w s i + w (nI i).toNatClampNeg = cd_wo w s (i + 1) := by
      rw [cx_cp hi]
      exact (cd_foT (q := fun i => bt s i) (g := fun a i => a + w i) c).symm
    exact br_t ((cd_bit1 s (by omega)).mpr c) ⟨cx_in hi, fun a ea c ec => ih c a ec (ea.trans e)⟩
  · have e : cd_wo w s i = cd_wo w s (i + 1) := (cd_foF (q := fun i => bt s i) c).symm
    exact br_f (fun z => c ((cd_bit1 s (by omega)).mp z)) (fun c ec => ih c _ ec e)
theorem cy_greatest {post : Int32 → Prop} {p : Int32} {w n t m : Nat → Int32} (R : cd_R p n t m) {a b : Int32} (h : post (cd_G p w n a b)) : wpY_greatest post (t, w, m) a b := by
  refine cd_loopS (fun f c z => wY_greatest_6 post a b t w m f z c) (fun i => cd_gm (cd_q p n a b) (fun i => cd_wo w (nI i) 9) i) 512 (-100000) rfl (fun f => br_t cx_512t h) (fun f i hi ih => ?_)
  refine br_f (cx_512f hi) ?_
  have eF : ¬ cd_q p n a b i = true → cd_gm (cd_q p n a b) (fun i => cd_wo w (nI i) 9) i = cd_gm (cd_q p n a b) (fun i => cd_wo w (nI i) 9) (i + 1) := fun hq => (cd_foF (q := cd_q p n a b) hq).symm
  have eT : cd_q p n a b i = true → (if cd_gm (cd_q p n a b) (fun i => cd_wo w (nI i) 9) i < cd_wo w (nI i) 9 then cd_wo w (nI i) 9 else cd_gm (cd_q p n a b) (fun i => cd_wo w (nI i) 9) i) = cd_gm (cd_q p n a b) (fun i => cd_wo w (nI i) 9) (i + 1) := fun hq => (cd_foT (q := cd_q p n a b) (g := fun z i => if z < cd_wo w (nI i) 9 then cd_wo w (nI i) 9 else z) hq).symm
  have nq : ¬ cd_al a b (nI i) = true → ¬ cd_q p n a b i = true := by
    intro na hq
    unfold cd_q at hq
    rw [Bool.and_eq_true] at hq
    exact na hq.1
  by_cases c1 : (a &&& (nI i ^^^ (-1))) = 0
  · refine br_t c1 ?_
    by_cases c2 : (b &&& nI i) = 0
    · refine br_t c2 (cy_closed R ?_)
      have al : cd_al a b (nI i) = true := by
        rw [cd_al_iff]
        exact ⟨cd_sub.mp c1, c2⟩
      by_cases c : cd_cl p n (nI i) = true
      · have hq : cd_q p n a b i = true := by
          unfold cd_q
          rw [al, c]; rfl
        rw [cd_biT c]
        refine br_f cx_10 (cy_sum ?_)
        by_cases le : cd_wo w (nI i) 9 ≤ cd_gm (cd_q p n a b) (fun i => cd_wo w (nI i) 9) i
        · refine br_t le (fun c ec => ih c _ ec ?_)
          have e := eT hq
          rw [if_neg (Int32.not_lt.mpr le)] at e
          exact e
        · refine br_f le (fun c ec => ih c _ ec ?_)
          have e := eT hq
          rw [if_pos (Int32.not_le.mp le)] at e
          exact e
      · have hq : ¬ cd_q p n a b i = true := by
          unfold cd_q
          rw [cd_nf c, Bool.and_false]; decide
        rw [cd_biF c]
        exact br_t rfl (fun c ec => ih c _ ec (eF hq))
    · have na : ¬ cd_al a b (nI i) = true := by
        rw [cd_al_iff]
        exact fun h => c2 h.2
      exact br_f c2 (fun c ec => ih c _ ec (eF (nq na)))
  · have na : ¬ cd_al a b (nI i) = true := by
      rw [cd_al_iff]
      exact fun h => c1 (cd_sub.mpr h.1)
    exact br_f c1 (fun c ec => ih c _ ec (eF (nq na)))
theorem cy_best {post : Int32 → Prop} {p : Int32} {w n t m : Nat → Int32} (R : cd_R p n t m) (h : post (cd_G p w n 0 0)) : wpY_best post (t, w, m) := by
  unfold wpY_best
  dsimp only
  exact cy_greatest R h
theorem cd_cwT {p : Int32} {w n : Nat → Int32} {g : Int32} {i : Nat} (c : cd_cl p n (nI i) = true) (d : cd_wo w (nI i) 9 = g) : cd_cw p w n g i = true := by
  unfold cd_cw
  rw [c, decide_eq_true d]; rfl
theorem cd_cwF {p : Int32} {w n : Nat → Int32} {g : Int32} {i : Nat} (d : ¬ cd_wo w (nI i) 9 = g) : ¬ cd_cw p w n g i = true := by
  unfold cd_cw
  rw [decide_eq_false d, Bool.and_false]; decide
theorem cd_cwG {p : Int32} {w n : Nat → Int32} {g : Int32} {i : Nat} (c : ¬ cd_cl p n (nI i) = true) : ¬ cd_cw p w n g i = true := by
  unfold cd_cw
  rw [cd_nf c, Bool.false_and]; decide
theorem cy_least {post : Int32 → Prop} {p : Int32} {w n t m : Nat → Int32} (R : cd_R p n t m) (h : post (cd_least p w n)) : wpY_leastBest post (t, w, m) := by
  unfold wpY_leastBest
  dsimp only
  refine cy_best R ?_
  refine cy_un R ?_
  refine cd_loopS (fun f c z => wY_leastBest_12 post (cd_G p w n 0 0) t w m f z c) (fun i => cd_fo (cd_cw p w n (cd_G p w n 0 0)) (fun a i => a &&& nI i) p i) 512 p rfl (fun f => br_t cx_512t h) (fun f i hi ih => ?_)
  refine br_f (cx_512f hi) (cy_closed R ?_)
  by_cases c : cd_cl p n (nI i) = true
  · rw [cd_biT c]
    refine br_f cx_10 (cy_sum ?_)
    by_cases d : cd_wo w (nI i) 9 = cd_G p w n 0 0
    · exact br_t d (fun a ea c' ec => ih c' a ec (ea.trans (cd_foT (g := fun a i => a &&& nI i) (cd_cwT c d)).symm))
    · exact br_f d (fun c' ec => ih c' _ ec (cd_foF (g := fun a i => a &&& nI i) (cd_cwF d)).symm)
  · rw [cd_biF c]
    exact br_t rfl (fun c' ec => ih c' _ ec (cd_foF (g := fun a i => a &&& nI i) (cd_cwG c)).symm)
theorem cy_great {post : Int32 → Prop} {p : Int32} {w n t m : Nat → Int32} (R : cd_R p n t m) (h : post (cd_great p w n)) : wpY_greatestBest post (t, w, m) := by
  unfold wpY_greatestBest
  dsimp only
  refine cy_best R ?_
  refine cd_loopS (fun f c z => wY_greatestBest_9 post (cd_G p w n 0 0) t w m f z c) (fun i => cd_fo (cd_cw p w n (cd_G p w n 0 0)) (fun a i => a ||| nI i) 0 i) 512 0 rfl (fun f => br_t cx_512t h) (fun f i hi ih => ?_)
  refine br_f (cx_512f hi) (cy_closed R ?_)
  by_cases c : cd_cl p n (nI i) = true
  · rw [cd_biT c]
    refine br_f cx_10 (cy_sum ?_)
    by_cases d : cd_wo w (nI i) 9 = cd_G p w n 0 0
    · exact br_t d (fun a ea c' ec => ih c' a ec (ea.trans (cd_foT (g := fun a i => a ||| nI i) (cd_cwT c d)).symm))
    · exact br_f d (fun c' ec => ih c' _ ec (cd_foF (g := fun a i => a ||| nI i) (cd_cwF d)).symm)
  · rw [cd_biF c]
    exact br_t rfl (fun c' ec => ih c' _ ec (cd_foF (g := fun a i => a ||| nI i) (cd_cwG c)).symm)
theorem cy_choices {post : Int32 → Prop} {p : Int32} {w n t m : Nat → Int32} (R : cd_R p n t m) (h : post (cd_choices p w n)) : wpY_choices post (t, w, m) := by
  unfold wpY_choices
  dsimp only
  refine cy_best R ?_
  refine cd_loopS (fun f c z => wY_choices_9 post (cd_G p w n 0 0) t w m f z c) (fun i => cd_fo (cd_cw p w n (cd_G p w n 0 0)) (fun a _ => a + 1) 0 i) 512 0 rfl (fun f => br_t cx_512t h) (fun f i hi ih => ?_)
  refine br_f (cx_512f hi) (cy_closed R ?_)
  by_cases c : cd_cl p n (nI i) = true
  · rw [cd_biT c]
    refine br_f cx_10 (cy_sum ?_)
    by_cases d : cd_wo w (nI i) 9 = cd_G p w n 0 0
    · exact br_t d (fun a ea c' ec => ih c' a ec (ea.trans (cd_foT (g := fun a _ => a + 1) (cd_cwT c d)).symm))
    · exact br_f d (fun c' ec => ih c' _ ec (cd_foF (g := fun a _ => a + 1) (cd_cwF d)).symm)
  · rw [cd_biF c]
    exact br_t rfl (fun c' ec => ih c' _ ec (cd_foF (g := fun a _ => a + 1) (cd_cwG c)).symm)
theorem cy_cl14 {post : Int32 → Prop} {p : Int32} {w n t m : Nat → Int32} (R : cd_R p n t m) {s : Int32} : ∀ k, k ≤ 512 → ∀ l x, x = nI k + (-1) → post (cd_fi (cd_cq p n s) k l) → wY_closure_14 post s t w m (k + 1) l x := by
  intro k
  induction k with
  | zero =>
    intro _ l x hx h
    have h0 : x < 0 := by rw [hx]; decide
    exact br_t h0 h
  | succ k ih =>
    intro hk l x hx h
    rw [pk_m1] at hx
    subst hx
    have h0 : ¬ nI k < 0 := nI_pos (by omega)
    refine br_f h0 (cy_closed R ?_)
    have h' : post (cd_fi (cd_cq p n s) k (if cd_cq p n s k = true then nI k else l)) := h
    by_cases c : cd_cl p n (nI k) = true
    · rw [cd_biT c]
      refine br_f cx_10 ?_
      by_cases d : (s &&& (nI k ^^^ (-1))) = 0
      · have e : cd_cq p n s k = true := by
          unfold cd_cq
          rw [c, decide_eq_true d]; rfl
        rw [if_pos e] at h'
        exact br_t d (fun y ey => ih (by omega) _ y ey h')
      · have e : ¬ cd_cq p n s k = true := by
          unfold cd_cq
          rw [decide_eq_false d, Bool.and_false]; decide
        rw [if_neg e] at h'
        exact br_f d (fun y ey => ih (by omega) _ y ey h')
    · have e : ¬ cd_cq p n s k = true := by
        unfold cd_cq
        rw [cd_nf c, Bool.false_and]; decide
      rw [if_neg e] at h'
      rw [cd_biF c]
      exact br_t rfl (fun y ey => ih (by omega) _ y ey h')
theorem cy_closure {post : Int32 → Prop} {p : Int32} {w n t m : Nat → Int32} (R : cd_R p n t m) {s : Int32} (h : post (cd_gr n (s &&& p) 9)) : wpY_closure post (t, w, m) s := by
  unfold wpY_closure
  dsimp only
  refine cy_un R ?_
  refine nm_e ?_
  have hs : cd_S (s &&& p) p := by
    intro j hj
    rw [b_and, Bool.and_eq_true] at hj
    exact hj.2
  rw [← cd_closure (n := n) (s := s &&& p) (p := p) (fun i hi => ((R.2.1 i).mp hi).1) R.2.2.2.2 hs] at h
  exact ⟨513, cy_cl14 R 512 (by omega) 0 511 (by decide) h⟩
theorem cy_is_T {post : Int32 → Prop} {p : Int32} {w n t m : Nat → Int32} (R : cd_R p n t m) {k : Nat} (hk : k < 9) (hp : bt p k = true) (h : post 1) : wpY_is post (t, w, m) (nI k) := by
  have ht : ¬ t (nI k).toNatClampNeg = 0 := by
    rw [cx_cp hk]
    exact ((R.2.1 k).mp hp).2
  exact br_f (cx_0le hk) (br_f (cx_9f hk) ⟨cx_in hk, br_f ht h⟩)
theorem cd_R_f {p : Int32} {n t m : Nat → Int32} (R : cd_R p n t m) {k : Nat} (hk : k < 9) (hp : bt p k = false) : t k = 0 := by
  apply Classical.byContradiction
  intro c
  exact cd_fn hp ((R.2.1 k).mpr ⟨hk, c⟩)
theorem cy_is_F {post : Int32 → Prop} {p : Int32} {w n t m : Nat → Int32} (R : cd_R p n t m) {x : Int32} (hx : ∀ k, k < 9 → x = nI k → bt p k = false) (h : post 0) : wpY_is post (t, w, m) x := by
  rcases cd_ix x with h0 | ⟨h0, h9⟩ | ⟨k, hk, e⟩
  · exact br_t h0 h
  · exact br_f h0 (br_t h9 h)
  · subst e
    have ht : t (nI k).toNatClampNeg = 0 := by
      rw [cx_cp hk]
      exact cd_R_f R hk (hx k hk rfl)
    exact br_f (cx_0le hk) (br_f (cx_9f hk) ⟨cx_in hk, br_t ht h⟩)
