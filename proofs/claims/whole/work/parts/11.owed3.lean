theorem cd_upd2 {a : Nat → Int32} {u : Nat} {x y : Int32} : upd (upd a u x) u y = upd a u y := by
  funext j
  by_cases e : j = u
  · rw [e, pk_us, pk_us]
  · rw [pk_un e, pk_un e, pk_un e]
/-- what the threshold is, before it is cut to -50 .. 51 -/
def cd_TH (p : Int32) (w n : Nat → Int32) (j : Nat) : Int := (cd_G p w n 0 (cd_one j)).toInt - ((cd_G p w n (cd_one j) 0).toInt - (w j).toInt)
theorem cy_th25 {post : Int32 → SY → Prop} {p : Int32} {w n t m : Nat → Int32} (R : cd_R p n t m) (hw : cd_W w) {j : Nat} (hj : j < 9) (hp : bt p j = true) {r : Int32} (hr : r.toInt = min 51 (max (cd_TH p w n j) (-50))) (h : post r (t, w, m)) : ∀ i : Nat, i ≤ 101 → ∀ (l x : Int32) (a : Nat → Int32), x.toInt = (i : Int) - 51 → l.toInt = min 51 (max (cd_TH p w n j) ((i : Int) - 50)) → (∀ z, upd a j z = upd w j z) → wY_threshold_25 post (nI j) (w j) (i + 1) l x t a m := by
  intro i
  induction i with
  | zero =>
    intro _ l x a hx hl ha
    have h0 : x < (-50) := by
      rw [Int32.lt_iff_toInt_lt, hx, show (-50 : Int32).toInt = -50 from by decide]
      omega
    refine br_t h0 ⟨cx_in hj, fun b eb => ?_⟩
    have er : l = r := by
      apply Int32.toInt_inj.mp
      rw [hl, hr]
      rfl
    rw [eb, cx_cp hj, ha, er]
    have ew : upd w j (w j) = w := by
      funext z
      by_cases e : z = j
      · rw [e, pk_us]
      · rw [pk_un e]
    rw [ew]
    exact h
  | succ i ih =>
    intro hi l x a hx hl ha
    have h0 : ¬ x < (-50) := by
      rw [Int32.lt_iff_toInt_lt, hx, show (-50 : Int32).toInt = -50 from by decide]
      omega
    refine br_f h0 ⟨cx_in hj, fun b eb => ?_⟩
    rw [cx_cp hj, ha] at eb
    subst eb
    refine cy_with_T R hj hp ?_
    refine cy_best R ?_
    have th := cd_th R hw hj hp x (by omega) (by omega)
    have hn : ∀ y : Int32, y = x + (-1) → y.toInt = (i : Int) - 51 := by
      intro y ey
      have e1 : (-1 : Int32).toInt = -1 := by decide
      rw [ey, cd_addI (by rw [e1]; omega) (by rw [e1]; omega), e1, hx]
      omega
    have hu : ∀ z, upd (upd w j x) j z = upd w j z := fun z => cd_upd2
    by_cases c : cd_G p (upd w j x) n (cd_one j) 0 = cd_G p (upd w j x) n 0 0
    · refine br_t c (fun y ey => ih (by omega) _ y _ (hn y ey) ?_ hu)
      have c' : cd_TH p w n j ≤ x.toInt := th.mp c
      omega
    · refine br_f c (fun y ey => ih (by omega) _ y _ (hn y ey) ?_ hu)
      have c' : ¬ cd_TH p w n j ≤ x.toInt := fun z => c (th.mpr z)
      omega
theorem cy_th {post : Int32 → SY → Prop} {p : Int32} {w n t m : Nat → Int32} (R : cd_R p n t m) (hw : cd_W w) {j : Nat} (hj : j < 9) (hp : bt p j = true) {r : Int32} (hr : r.toInt = min 51 (max (cd_TH p w n j) (-50))) (h : post r (t, w, m)) : wpY_threshold post (t, w, m) (nI j) := by
  unfold wpY_threshold
  dsimp only
  refine cy_is_T R hj hp ?_
  refine br_f cx_10 ⟨cx_in hj, fun y ey => ?_⟩
  rw [cx_cp hj] at ey
  subst ey
  refine ⟨102, cy_th25 R hw hj hp hr h 101 (by omega) 51 50 w (by decide) ?_ (fun z => rfl)⟩
  rw [show (51 : Int32).toInt = 51 from by decide]
  omega
theorem i_vc_threshold {k : Nat} {u : SX} {v : SY} (I : i_Rel k u v) (hk : k + 4 ≤ 2048) (v1 : Int32) : wpX_threshold (fun r => wpY_threshold (fun r' v' => r' = r ∧ i_Rel (k + 4) u v') v v1) u v1 := by
  obtain ⟨p, w, n, t, m, rfl, rfl, R, hw⟩ := I
  rcases cd_pres p v1 with ⟨j, hj, e, hp⟩ | ha
  · subst e
    unfold wpX_threshold
    dsimp only
    refine cx_isP_T hj hp ?_
    refine br_f cx_10 ?_
    refine cx_with_T hj hp ?_
    refine ⟨cx_in hj, fun y ey => ?_⟩
    refine cx_without_T hj hp ?_
    intro z ez
    rw [cx_cp hj] at ey
    obtain ⟨_, a1, a2⟩ := cd_G_Mx hw (cd_q_with R hj hp)
    obtain ⟨_, b1, b2⟩ := cd_G_Mx hw (cd_q_without (p := p) (n := n) (b := cd_one j))
    obtain ⟨w1, w2⟩ := hw j hj
    have hy : y.toInt = (cd_G p w n (cd_one j) 0).toInt - (w j).toInt := by
      rw [ey]
      exact cd_subI (by omega) (by omega)
    have hz : z.toInt = cd_TH p w n j := by
      rw [ez, cd_subI (by omega) (by omega), hy]
      rfl
    have m50 : (-50 : Int32).toInt = -50 := by decide
    have p50 : (50 : Int32).toInt = 50 := by decide
    have p51 : (51 : Int32).toInt = 51 := by decide
    by_cases c : (-50) ≤ z
    · refine br_t c ?_
      rw [Int32.le_iff_toInt_le, m50] at c
      by_cases d : z ≤ 50
      · refine br_t d (cy_th R hw hj hp (r := z) ?_ ⟨rfl, cd_rel _ R hw⟩)
        rw [Int32.le_iff_toInt_le, p50] at d
        omega
      · refine br_f d (cy_th R hw hj hp (r := 51) ?_ ⟨rfl, cd_rel _ R hw⟩)
        rw [Int32.le_iff_toInt_le, p50] at d
        omega
    · refine br_f c (cy_th R hw hj hp (r := -50) ?_ ⟨rfl, cd_rel _ R hw⟩)
      rw [Int32.le_iff_toInt_le, m50] at c
      omega
  · unfold wpX_threshold wpY_threshold
    dsimp only
    refine cx_isP_F ha ?_
    refine br_t rfl (cy_is_F R ha ?_)
    exact br_t rfl ⟨rfl, cd_rel _ R hw⟩
theorem i_vc_burden {k : Nat} {u : SX} {v : SY} (I : i_Rel k u v) (hk : k + 4 ≤ 2048) (v1 : Int32) (v2 : Int32) : wpX_burden (fun r u' => wpY_burden (fun r' v' => r' = r ∧ i_Rel (k + 4) u' v') v v1 v2) u v1 v2 := by
  obtain ⟨p, w, n, t, m, rfl, rfl, R, hw⟩ := I
  unfold wpX_burden wpY_burden
  dsimp only
  by_cases e : v1 = v2
  · refine cx_pair_a e ?_
    exact br_t rfl (br_t e ⟨rfl, cd_rel _ R hw⟩)
  · rcases cd_pres p v1 with ⟨i, hi, e1, hp⟩ | ha
    · subst e1
      rcases cd_pres p v2 with ⟨j, hj, e2, hq⟩ | hb
      · subst e2
        have R' := cd_R_off R hi hp hj
        refine cx_pair_d e hi hp hj hq ?_
        refine br_f cx_10 ⟨cx_in hi, fun y ey => ?_⟩
        rw [cx_cp hi] at ey
        subst ey
        refine cx_best ?_
        refine ⟨cx_in hi, fun a ea => ?_⟩
        rw [cx_cp hi] at ea
        subst ea
        refine cx_best ?_
        refine ⟨cx_in hi, fun b eb => ?_⟩
        rw [cx_cp hi, cd_back] at eb
        subst eb
        refine br_f e (cy_is_T R hi hp ?_)
        refine br_f cx_10 (cy_is_T R hj hq ?_)
        refine br_f cx_10 ⟨cx_in hi, fun y ey => ?_⟩
        rw [cx_cp hi] at ey
        subst ey
        refine cy_best R ?_
        refine ⟨cx_in hi, fun a ea => ?_⟩
        rw [cx_cp hi] at ea
        subst ea
        refine cy_best R' ?_
        refine ⟨cx_in hi, fun c ec => ?_⟩
        rw [cx_cp hi, cd_back] at ec
        subst ec
        exact ⟨rfl, cd_rel _ R hw⟩
      · refine cx_pair_c e hi hp hb ?_
        refine br_t rfl ?_
        refine br_f e (cy_is_T R hi hp ?_)
        refine br_f cx_10 (cy_is_F R hb ?_)
        exact br_t rfl ⟨rfl, cd_rel _ R hw⟩
    · refine cx_pair_b e ha ?_
      refine br_t rfl ?_
      refine br_f e (cy_is_F R ha ?_)
      exact br_t rfl ⟨rfl, cd_rel _ R hw⟩
