def i_Rel (k : Nat) (u : SX) (v : SY) : Prop := ∃ (p : Int32) (w n t m : Nat → Int32), u = (p, w, n) ∧ v = (t, w, m) ∧ cd_R p n t m ∧ cd_W w
theorem cd_rel (k : Nat) {p : Int32} {w n t m : Nat → Int32} (R : cd_R p n t m) (hw : cd_W w) : i_Rel k (p, w, n) (t, w, m) := ⟨p, w, n, t, m, rfl, rfl, R, hw⟩
theorem i_up {k : Nat} {u : SX} {v : SY} (h : i_Rel k u v) : i_Rel (k + 4) u v := h
theorem i_vc0 : wpX_init (fun u => wpY_init (fun v => i_Rel 0 u v)) := cd_rel 0 cd_R_0 cd_W_0
def cd_wf (x : Int32) : Bool := decide (¬ x < (-50)) && decide (¬ 50 < x)
theorem cd_wfF1 {x : Int32} (h : x < (-50)) : cd_bi (cd_wf x) = 0 := by
  apply cd_biF
  unfold cd_wf
  rw [decide_eq_false (fun z => z h), Bool.false_and]; decide
theorem cd_wfF2 {x : Int32} (h : 50 < x) : cd_bi (cd_wf x) = 0 := by
  apply cd_biF
  unfold cd_wf
  rw [decide_eq_false (p := ¬ 50 < x) (fun z => z h), Bool.and_false]; decide
theorem cd_wfT {x : Int32} (h1 : ¬ x < (-50)) (h2 : ¬ 50 < x) : cd_bi (cd_wf x) = 1 := by
  apply cd_biT
  unfold cd_wf
  rw [decide_eq_true h1, decide_eq_true h2]; rfl
theorem cd_wfI {x : Int32} (h : cd_wf x = true) : -50 ≤ x.toInt ∧ x.toInt ≤ 50 := by
  unfold cd_wf at h
  rw [Bool.and_eq_true, decide_eq_true_iff, decide_eq_true_iff, Int32.lt_iff_toInt_lt, Int32.lt_iff_toInt_lt, show (-50 : Int32).toInt = -50 from by decide, show (50 : Int32).toInt = 50 from by decide] at h
  omega
theorem cx_isW {post : Int32 → Prop} {x : Int32} (h : post (cd_bi (cd_wf x))) : wpX_isWorth post x := by
  by_cases c : x < (-50)
  · rw [cd_wfF1 c] at h
    exact br_t c h
  · by_cases d : 50 < x
    · rw [cd_wfF2 d] at h
      exact br_f c (br_t d h)
    · rw [cd_wfT c d] at h
      exact br_f c (br_f d h)
theorem cy_fits {post : Int32 → Prop} {v : SY} {x : Int32} (h : post (cd_bi (cd_wf x))) : wpY_fits post v x := by
  by_cases c : x < (-50)
  · rw [cd_wfF1 c] at h
    exact br_t c h
  · by_cases d : 50 < x
    · rw [cd_wfF2 d] at h
      exact br_f c (br_t d h)
    · rw [cd_wfT c d] at h
      exact br_f c (br_f d h)
theorem cd_nb0 : vp_nar .boolean 0 = 0 := by decide
theorem cd_nb1 : vp_nar .boolean 1 = 1 := by decide
theorem cx_add_T {post : Int32 → SX → Prop} {p : Int32} {w n : Nat → Int32} {x : Int32} {k : Nat} (hk : k < 9) (hp : bt p k = false) (hj : ∀ j, j < k → bt p j = true) (h : post (nI k) (p ||| cd_one k, upd w k x, n)) : ∃ f, wX_add_11 post x p w n f 0 := by
  refine cd_loop0 (fun f c => wX_add_11 post x p w n f c) k (fun f => ?_) (fun f i hi ih => ?_)
  · refine br_f (cx_9f hk) (cx_isIn (by omega) ?_)
    rw [cd_biF (cd_fn hp)]
    refine br_t rfl (fun q eq => ⟨cx_in hk, fun a ea => ?_⟩)
    rw [eq, ea, cx_cp hk]
    exact h
  · refine br_f (cx_9f (by omega)) (cx_isIn (by omega) ?_)
    rw [cd_biT (hj i hi)]
    exact br_f cx_10 (fun c ec => ih c ec)
theorem cx_add_F {post : Int32 → SX → Prop} {p : Int32} {w n : Nat → Int32} {x : Int32} (hj : ∀ j, j < 9 → bt p j = true) (h : post (-2) (p, w, n)) : ∃ f, wX_add_11 post x p w n f 0 := by
  refine cd_loop0 (fun f c => wX_add_11 post x p w n f c) 9 (fun f => br_t cx_9t h) (fun f i hi ih => ?_)
  refine br_f (cx_9f hi) (cx_isIn (by omega) ?_)
  rw [cd_biT (hj i hi)]
  exact br_f cx_10 (fun c ec => ih c ec)
theorem cy_add_T {post : Int32 → SY → Prop} {w t m : Nat → Int32} {x : Int32} {k : Nat} (hk : k < 9) (hp : t k = 0) (hj : ∀ j, j < k → ¬ t j = 0) (h : post (nI k) (upd t k 1, upd w k x, upd m k 0)) : ∃ f, wY_add_12 post x t w m f 0 := by
  refine cd_loop0 (fun f c => wY_add_12 post x t w m f c) k (fun f => ?_) (fun f i hi ih => ?_)
  · have ht : t (nI k).toNatClampNeg = 0 := by rw [cx_cp hk]; exact hp
    refine br_f (cx_9f hk) ⟨cx_in hk, br_t ht ⟨cx_in hk, fun a ea => ⟨cx_in hk, fun b eb => ⟨cx_in hk, fun c ec => ?_⟩⟩⟩⟩
    rw [ea, eb, ec, cx_cp hk, cd_nb1]
    exact h
  · have hi9 : i < 9 := by omega
    have ht : ¬ t (nI i).toNatClampNeg = 0 := by rw [cx_cp hi9]; exact hj i hi
    exact br_f (cx_9f hi9) ⟨cx_in hi9, br_f ht (fun c ec => ih c ec)⟩
theorem cy_add_F {post : Int32 → SY → Prop} {w t m : Nat → Int32} {x : Int32} (hj : ∀ j, j < 9 → ¬ t j = 0) (h : post (-2) (t, w, m)) : ∃ f, wY_add_12 post x t w m f 0 := by
  refine cd_loop0 (fun f c => wY_add_12 post x t w m f c) 9 (fun f => br_t cx_9t h) (fun f i hi ih => ?_)
  have ht : ¬ t (nI i).toNatClampNeg = 0 := by rw [cx_cp hi]; exact hj i hi
  exact br_f (cx_9f hi) ⟨cx_in hi, br_f ht (fun c ec => ih c ec)⟩
theorem i_vc_add {k : Nat} {u : SX} {v : SY} (I : i_Rel k u v) (hk : k + 4 ≤ 2048) (v1 : Int32) : wpX_add (fun r u' => wpY_add (fun r' v' => r' = r ∧ i_Rel (k + 4) u' v') v v1) u v1 := by
  obtain ⟨p, w, n, t, m, rfl, rfl, R, hw⟩ := I
  unfold wpX_add wpY_add
  dsimp only
  refine cx_isW ?_
  by_cases c : cd_wf v1 = true
  · rw [cd_biT c]
    refine br_f cx_10 ?_
    have hv := cd_wfI c
    rcases cd_first p 9 with ⟨j, hj, hp, ha⟩ | ha
    · refine cx_add_T hj hp ha ?_
      refine cy_fits ?_
      rw [cd_biT c]
      refine br_f cx_10 (cy_add_T hj (cd_R_f R hj hp) (fun i hi => ((R.2.1 i).mp (ha i hi)).2) ⟨rfl, ?_⟩)
      exact cd_rel _ (cd_R_add R hj hp) (cd_W_upd hw hv.1 hv.2)
    · refine cx_add_F ha ?_
      refine cy_fits ?_
      rw [cd_biT c]
      exact br_f cx_10 (cy_add_F (fun i hi => ((R.2.1 i).mp (ha i hi)).2) ⟨rfl, cd_rel _ R hw⟩)
  · rw [cd_biF c]
    refine br_t rfl ?_
    refine cy_fits ?_
    rw [cd_biF c]
    exact br_t rfl ⟨rfl, cd_rel _ R hw⟩
theorem i_vc_remove {k : Nat} {u : SX} {v : SY} (I : i_Rel k u v) (hk : k + 4 ≤ 2048) (v1 : Int32) : wpX_remove (fun r u' => wpY_remove (fun r' v' => r' = r ∧ i_Rel (k + 4) u' v') v v1) u v1 := by
  obtain ⟨p, w, n, t, m, rfl, rfl, R, hw⟩ := I
  unfold wpX_remove wpY_remove
  dsimp only
  rcases cd_pres p v1 with ⟨j, hj, e, hp⟩ | ha
  · subst e
    refine cx_isP_T hj hp ?_
    refine br_f cx_10 (fun q eq => ⟨cx_in hj, fun a ea => ?_⟩)
    subst eq ea
    rw [cx_cp hj]
    refine cd_loopS (fun f c a => wX_remove_33 _ (nI j) _ f c w a) (fun i => cd_ms (upd n j 0) (cd_one j ^^^ (-1)) i) 9 (upd n j 0) (cd_ms_0 _ _) (fun f => br_t cx_9t ?_) (fun f i hi ih => ?_)
    · refine cy_is_T R hj hp ?_
      refine br_f cx_10 ⟨cx_in hj, fun b eb => ?_⟩
      subst eb
      rw [cd_nb0]
      refine cd_loopS (fun f c a => wY_remove_19 _ (nI j) f c (upd t j 0) w a) (fun i => cd_ms m (cd_one j ^^^ (-1)) i) 9 m (cd_ms_0 _ _) (fun f => br_t cx_9t ⟨rfl, cd_rel _ (cd_R_rem R hj) hw⟩) (fun f i hi ih => ?_)
      have e : upd (cd_ms m (cd_one j ^^^ (-1)) i) (nI i).toNatClampNeg ((cd_ms m (cd_one j ^^^ (-1)) i (nI i).toNatClampNeg) &&& (cd_one j ^^^ (-1))) = cd_ms m (cd_one j ^^^ (-1)) (i + 1) := by
        rw [cx_cp hi, cd_ms_at, cd_ms_s]
      exact br_f (cx_9f hi) ⟨cx_in hi, cx_in hi, fun a ea c ec => ih c a ec (ea.trans e)⟩
    · have e : upd (cd_ms (upd n j 0) (cd_one j ^^^ (-1)) i) (nI i).toNatClampNeg ((cd_ms (upd n j 0) (cd_one j ^^^ (-1)) i (nI i).toNatClampNeg) &&& (cd_one j ^^^ (-1))) = cd_ms (upd n j 0) (cd_one j ^^^ (-1)) (i + 1) := by
        rw [cx_cp hi, cd_ms_at, cd_ms_s]
      exact br_f (cx_9f hi) ⟨cx_in hi, cx_in hi, fun a ea c ec => ih c a ec (ea.trans e)⟩
  · refine cx_isP_F ha ?_
    refine br_t rfl ?_
    refine cy_is_F R ha ?_
    exact br_t rfl ⟨rfl, cd_rel _ R hw⟩
theorem i_vc_rate {k : Nat} {u : SX} {v : SY} (I : i_Rel k u v) (hk : k + 4 ≤ 2048) (v1 : Int32) (v2 : Int32) : wpX_rate (fun r u' => wpY_rate (fun r' v' => r' = r ∧ i_Rel (k + 4) u' v') v v1 v2) u v1 v2 := by
  obtain ⟨p, w, n, t, m, rfl, rfl, R, hw⟩ := I
  unfold wpX_rate wpY_rate
  dsimp only
  rcases cd_pres p v1 with ⟨j, hj, e, hp⟩ | ha
  · subst e
    refine cx_isP_T hj hp ?_
    refine br_f cx_10 ?_
    refine cx_isW ?_
    by_cases c : cd_wf v2 = true
    · rw [cd_biT c]
      refine br_f cx_10 ⟨cx_in hj, fun a ea => ?_⟩
      refine cy_is_T R hj hp ?_
      refine br_f cx_10 ?_
      refine cy_fits ?_
      rw [cd_biT c]
      refine br_f cx_10 ⟨cx_in hj, fun b eb => ⟨rfl, ?_⟩⟩
      have hv := cd_wfI c
      rw [ea, eb]
      exact cd_rel _ R (cd_W_upd hw hv.1 hv.2)
    · rw [cd_biF c]
      refine br_t rfl ?_
      refine cy_is_T R hj hp ?_
      refine br_f cx_10 ?_
      refine cy_fits ?_
      rw [cd_biF c]
      exact br_t rfl ⟨rfl, cd_rel _ R hw⟩
  · refine cx_isP_F ha ?_
    refine br_t rfl ?_
    refine cy_is_F R ha ?_
    exact br_t rfl ⟨rfl, cd_rel _ R hw⟩
