theorem cx_pair_a {post : Int32 → Prop} {p : Int32} {w n : Nat → Int32} {x y : Int32} (e : x = y) (h : post 0) : wpX_isPair post (p, w, n) x y := br_t e h
theorem cx_pair_b {post : Int32 → Prop} {p : Int32} {w n : Nat → Int32} {x y : Int32} (e : ¬ x = y) (hx : ∀ k, k < 9 → x = nI k → bt p k = false) (h : post 0) : wpX_isPair post (p, w, n) x y := by
  refine br_f e (cx_isP_F hx ?_)
  exact br_t rfl h
theorem cx_pair_c {post : Int32 → Prop} {p : Int32} {w n : Nat → Int32} {i : Nat} {y : Int32} (e : ¬ nI i = y) (hi : i < 9) (hp : bt p i = true) (hy : ∀ k, k < 9 → y = nI k → bt p k = false) (h : post 0) : wpX_isPair post (p, w, n) (nI i) y := by
  refine br_f e (cx_isP_T hi hp ?_)
  refine br_f cx_10 (cx_isP_F hy ?_)
  exact br_t rfl h
theorem cx_pair_d {post : Int32 → Prop} {p : Int32} {w n : Nat → Int32} {i j : Nat} (e : ¬ nI i = nI j) (hi : i < 9) (hp : bt p i = true) (hj : j < 9) (hq : bt p j = true) (h : post 1) : wpX_isPair post (p, w, n) (nI i) (nI j) := by
  refine br_f e (cx_isP_T hi hp ?_)
  refine br_f cx_10 (cx_isP_T hj hq ?_)
  exact br_f cx_10 h
theorem i_vc_need {k : Nat} {u : SX} {v : SY} (I : i_Rel k u v) (hk : k + 4 ≤ 2048) (v1 : Int32) (v2 : Int32) (v3 : Int32) : wpX_need (fun r u' => wpY_need (fun r' v' => r' = r ∧ i_Rel (k + 4) u' v') v v1 v2 (lw_bz v3)) u v1 v2 (lw_bz v3) := by
  obtain ⟨p, w, n, t, m, rfl, rfl, R, hw⟩ := I
  unfold wpX_need wpY_need
  dsimp only
  by_cases e : v1 = v2
  · refine cx_pair_a e ?_
    exact br_t rfl (br_t e ⟨rfl, cd_rel _ R hw⟩)
  · rcases cd_pres p v1 with ⟨i, hi, e1, hp⟩ | ha
    · subst e1
      rcases cd_pres p v2 with ⟨j, hj, e2, hq⟩ | hb
      · subst e2
        refine cx_pair_d e hi hp hj hq ?_
        refine br_f cx_10 ?_
        by_cases z : lw_bz v3 = 0
        · refine br_t z ⟨cx_in hi, cx_in hi, fun a ea => ?_⟩
          refine br_f e (cy_is_T R hi hp ?_)
          refine br_f cx_10 (cy_is_T R hj hq ?_)
          refine br_f cx_10 (br_t z ⟨cx_in hi, cx_in hi, fun b eb => ⟨rfl, ?_⟩⟩)
          rw [ea, eb, cx_cp hi]
          exact cd_rel _ (cd_R_off R hi hp hj) hw
        · refine br_f z ⟨cx_in hi, cx_in hi, fun a ea => ?_⟩
          refine br_f e (cy_is_T R hi hp ?_)
          refine br_f cx_10 (cy_is_T R hj hq ?_)
          refine br_f cx_10 (br_f z ⟨cx_in hi, cx_in hi, fun b eb => ⟨rfl, ?_⟩⟩)
          rw [ea, eb, cx_cp hi]
          exact cd_rel _ (cd_R_on R hi hp hj hq) hw
      · refine cx_pair_c e hi hp hb ?_
        refine br_t rfl ?_
        refine br_f e (cy_is_T R hi hp ?_)
        refine br_f cx_10 (cy_is_F R hb ?_)
        exact br_t rfl ⟨rfl, cd_rel _ R hw⟩
    · refine cx_pair_b e ha ?_
      refine br_t rfl ?_
      refine br_f e (cy_is_F R ha ?_)
      exact br_t rfl ⟨rfl, cd_rel _ R hw⟩
theorem i_vc_undertakings {k : Nat} {u : SX} {v : SY} (I : i_Rel k u v) (hk : k + 4 ≤ 2048) : wpX_undertakings (fun r => wpY_undertakings (fun r' => r' = r ∧ i_Rel (k + 4) u v) v) u := by
  obtain ⟨p, w, n, t, m, rfl, rfl, R, hw⟩ := I
  unfold wpX_undertakings
  dsimp only
  exact cy_un R ⟨rfl, cd_rel _ R hw⟩
theorem i_vc_closed {k : Nat} {u : SX} {v : SY} (I : i_Rel k u v) (hk : k + 4 ≤ 2048) (v1 : Int32) : wpX_closed (fun r => wpY_closed (fun r' => r' = r ∧ i_Rel (k + 4) u v) v v1) u v1 := by
  obtain ⟨p, w, n, t, m, rfl, rfl, R, hw⟩ := I
  refine cx_closed ?_
  exact cy_closed R ⟨rfl, cd_rel _ R hw⟩
theorem i_vc_closure {k : Nat} {u : SX} {v : SY} (I : i_Rel k u v) (hk : k + 4 ≤ 2048) (v1 : Int32) : wpX_closure (fun r => wpY_closure (fun r' => r' = r ∧ i_Rel (k + 4) u v) v v1) u v1 := by
  obtain ⟨p, w, n, t, m, rfl, rfl, R, hw⟩ := I
  refine cx_closure ?_
  exact cy_closure R ⟨rfl, cd_rel _ R hw⟩
theorem i_vc_best {k : Nat} {u : SX} {v : SY} (I : i_Rel k u v) (hk : k + 4 ≤ 2048) : wpX_best (fun r => wpY_best (fun r' => r' = r ∧ i_Rel (k + 4) u v) v) u := by
  obtain ⟨p, w, n, t, m, rfl, rfl, R, hw⟩ := I
  refine cx_best ?_
  exact cy_best R ⟨rfl, cd_rel _ R hw⟩
theorem i_vc_leastBest {k : Nat} {u : SX} {v : SY} (I : i_Rel k u v) (hk : k + 4 ≤ 2048) : wpX_leastBest (fun r => wpY_leastBest (fun r' => r' = r ∧ i_Rel (k + 4) u v) v) u := by
  obtain ⟨p, w, n, t, m, rfl, rfl, R, hw⟩ := I
  refine cx_least ?_
  exact cy_least R ⟨rfl, cd_rel _ R hw⟩
theorem i_vc_greatestBest {k : Nat} {u : SX} {v : SY} (I : i_Rel k u v) (hk : k + 4 ≤ 2048) : wpX_greatestBest (fun r => wpY_greatestBest (fun r' => r' = r ∧ i_Rel (k + 4) u v) v) u := by
  obtain ⟨p, w, n, t, m, rfl, rfl, R, hw⟩ := I
  refine cx_great ?_
  exact cy_great R ⟨rfl, cd_rel _ R hw⟩
theorem i_vc_choices {k : Nat} {u : SX} {v : SY} (I : i_Rel k u v) (hk : k + 4 ≤ 2048) : wpX_choices (fun r => wpY_choices (fun r' => r' = r ∧ i_Rel (k + 4) u v) v) u := by
  obtain ⟨p, w, n, t, m, rfl, rfl, R, hw⟩ := I
  refine cx_choices ?_
  exact cy_choices R ⟨rfl, cd_rel _ R hw⟩
theorem cx_with_T {post : Int32 → Prop} {p : Int32} {w n : Nat → Int32} {j : Nat} (hj : j < 9) (hp : bt p j = true) (h : post (cd_G p w n (cd_one j) 0)) : wpX_bestWith post (p, w, n) (nI j) := by
  unfold wpX_bestWith
  dsimp only
  refine cx_isP_T hj hp ?_
  exact br_f cx_10 (cx_greatest h)
theorem cy_with_T {post : Int32 → Prop} {p : Int32} {w n t m : Nat → Int32} (R : cd_R p n t m) {j : Nat} (hj : j < 9) (hp : bt p j = true) (h : post (cd_G p w n (cd_one j) 0)) : wpY_bestWith post (t, w, m) (nI j) := by
  unfold wpY_bestWith
  dsimp only
  refine cy_is_T R hj hp ?_
  exact br_f cx_10 (cy_greatest R h)
theorem i_vc_bestWith {k : Nat} {u : SX} {v : SY} (I : i_Rel k u v) (hk : k + 4 ≤ 2048) (v1 : Int32) : wpX_bestWith (fun r => wpY_bestWith (fun r' => r' = r ∧ i_Rel (k + 4) u v) v v1) u v1 := by
  obtain ⟨p, w, n, t, m, rfl, rfl, R, hw⟩ := I
  rcases cd_pres p v1 with ⟨j, hj, e, hp⟩ | ha
  · subst e
    refine cx_with_T hj hp ?_
    exact cy_with_T R hj hp ⟨rfl, cd_rel _ R hw⟩
  · unfold wpX_bestWith wpY_bestWith
    dsimp only
    refine cx_isP_F ha ?_
    refine br_t rfl (cy_is_F R ha ?_)
    exact br_t rfl ⟨rfl, cd_rel _ R hw⟩
theorem cx_without_T {post : Int32 → Prop} {p : Int32} {w n : Nat → Int32} {j : Nat} (hj : j < 9) (hp : bt p j = true) (h : post (cd_G p w n 0 (cd_one j))) : wpX_bestWithout post (p, w, n) (nI j) := by
  unfold wpX_bestWithout
  dsimp only
  refine cx_isP_T hj hp ?_
  refine br_f cx_10 ?_
  exact cx_greatest h
theorem cx_without_F {post : Int32 → Prop} {p : Int32} {w n : Nat → Int32} {x : Int32} (hx : ∀ k, k < 9 → x = nI k → bt p k = false) (h : post (cd_G p w n 0 0)) : wpX_bestWithout post (p, w, n) x := by
  unfold wpX_bestWithout
  dsimp only
  refine cx_isP_F hx ?_
  refine br_t rfl ?_
  exact cx_greatest h
theorem cy_without_I {post : Int32 → Prop} {p : Int32} {w n t m : Nat → Int32} (R : cd_R p n t m) {j : Nat} (hj : j < 9) (h : post (cd_G p w n 0 (cd_one j))) : wpY_bestWithout post (t, w, m) (nI j) := by
  refine br_f (cx_0le hj) (br_f (cx_9f hj) ?_)
  exact cy_greatest R h
theorem i_vc_bestWithout {k : Nat} {u : SX} {v : SY} (I : i_Rel k u v) (hk : k + 4 ≤ 2048) (v1 : Int32) : wpX_bestWithout (fun r => wpY_bestWithout (fun r' => r' = r ∧ i_Rel (k + 4) u v) v v1) u v1 := by
  obtain ⟨p, w, n, t, m, rfl, rfl, R, hw⟩ := I
  rcases cd_pres p v1 with ⟨j, hj, e, hp⟩ | ha
  · subst e
    refine cx_without_T hj hp ?_
    exact cy_without_I R hj ⟨rfl, cd_rel _ R hw⟩
  · refine cx_without_F ha ?_
    rcases cd_ix v1 with h0 | ⟨h0, h9⟩ | ⟨j, hj, e⟩
    · refine br_t h0 ?_
      exact cy_greatest R ⟨rfl, cd_rel _ R hw⟩
    · refine br_f h0 (br_t h9 ?_)
      exact cy_greatest R ⟨rfl, cd_rel _ R hw⟩
    · subst e
      refine cy_without_I R hj ⟨?_, cd_rel _ R hw⟩
      exact cd_G_absent (by omega) (ha j hj rfl)
