section FYW
variable {kn te fl : Int32} {yk yl sz th fa ef : Nat → Int32} {go : Nat → Int64} {gu ye yd : Nat → Int32} {wa al yc : Nat → Int64} {tr fd ys : Nat → Int32}
theorem fy_w12 {post : Int32 → SY → Prop} (hz : fc_Z sz) {j s : Nat} (hj : j < 19) (hs : s < fc_N sz) (ok : fc_ok yk yl j)
    (hp : ∀ sk', post (fc_w sz yk yl j s) (kn, te, fl, yk, yl, sz, th, fa, ef, go, gu, ye, yd, wa, al, yc, tr, fd, sk')) : ∀ i, i ≤ fc_L yl j → ∀ (l : List Int32) (ys : Nat → Int32) (n : Nat), l.length = fc_ms (fc_T yk j) i → fc_SK ys l →
    fc_run (fc_T yk j) (fun v => nI (fc_v sz s v)) i l = fc_w sz yk yl j s → i < n → wY_work_12 post (nI j) (nI s) kn te fl n (nI l.length) (nI i + (-1)) yk yl sz th fa ef go gu ye yd wa al yc tr fd ys := by
  intro i
  have hL := ok.1.2.1
  induction i with
  | zero =>
    intro _ l ys n hl hk hv hn
    obtain ⟨n, rfl⟩ : ∃ m, n = m + 1 := ⟨n - 1, by omega⟩
    obtain ⟨x, r, rfl⟩ := fc_l1 (l := l) (by rw [hl]; exact Nat.le_refl _)
    have hr : r.length = 0 := by
      have : (x :: r).length = 1 := hl
      simp at this; simp [this]
    refine br_t (by decide) ?_
    have h0 : ys 0 = fc_w sz yk yl j s := by
      rw [← hv]
      have := hk.1
      rw [hr] at this
      exact this
    rw [h0]
    exact hp ys
  | succ i ih =>
    intro hi l ys n hl hk hv hn
    obtain ⟨n, rfl⟩ : ∃ m, n = m + 1 := ⟨n - 1, by omega⟩
    rw [pk_m1]
    have hd := fc_ms_dn ok.2 (fc_L yl j - i) i (by omega)
    have hd1 := fc_ms_dn ok.2 (fc_L yl j - (i + 1)) (i + 1) (by omega)
    have hm0 := ok.2.1 i (by omega)
    have hms : fc_ms (fc_T yk j) (i + 1) = fc_ms (fc_T yk j) i + fc_a (fc_T yk j i) - 1 := rfl
    obtain ⟨ht, hc⟩ := fc_nmc (ok.1.2.2 i (by omega))
    have ht : yk (j * 12 + i) = nI (fc_T yk j i) := ht
    have hc : fc_nc (fc_T yk j i) := hc
    have hc100 := fc_nc100 hc
    have hv : fc_run (fc_T yk j) (fun v => nI (fc_v sz s v)) i (fc_op (fc_T yk j i) (fun v => nI (fc_v sz s v)) l) = fc_w sz yk yl j s := hv
    have hy : 12 * nI j + nI i = nI (j * 12 + i) := by
      rw [← nI_add, Nat.mul_comm, ← pk_mul]; rfl
    generalize fc_T yk j i = c at *
    have fin : ∀ (r : List Int32) (val : Int32), fc_SK ys r → r.length + 1 = fc_ms (fc_T yk j) i → fc_run (fc_T yk j) (fun v => nI (fc_v sz s v)) i (val :: r) = fc_w sz yk yl j s →
        vp_in (nI r.length) 12 ∧ (∀ st, st = upd ys (nI r.length).toNatClampNeg val → ∀ x3', x3' = nI r.length + 1 → ∀ x4', x4' = nI i + (-1) → wY_work_12 post (nI j) (nI s) kn te fl n x3' x4' yk yl sz th fa ef go gu ye yd wa al yc tr fd st) := by
      intro r val hr hrl hrv
      refine ⟨vp_in_nI (by omega) (by omega), ?_⟩
      rw [nI_clamp (by omega)]
      refine nm_e (nm_r (nI_1 _) (nm_e ?_))
      exact ih (by omega) (val :: r) _ n hrl (fc_SKc hr) hrv (by omega)
    refine br_f (nI_pos (by omega)) ?_
    rw [hy]
    refine ⟨vp_in_nI (by omega) (by omega), ?_⟩
    rw [nI_clamp (by omega), ht]
    refine nm_e ?_
    refine pk_le 20 c (fun h20 => ?_) (fun h20 => pk_le 10 c (fun h10 => ?_) (fun h10 => ?_))
    · refine fy_ar hc100 ?_
      intro x3 e3
      refine pk_eq c 28 (fun h28 => ?_) (fun h28 => ?_)
      · have ha : fc_a c = 3 := by subst h28; rfl
        obtain ⟨x, y, w, r, rfl⟩ := fc_l3 (l := l) (by omega)
        have hrl : (x :: y :: w :: r).length = r.length + 3 := rfl
        have e3 : x3 = nI r.length := by rw [e3, ha, pk_sub (by omega), hrl, Nat.add_sub_cancel]
        rw [fc_op3 _ _ _ _ _ h28] at hv
        rw [e3]
        have h2 : nI r.length + nI 3 - 1 = nI (r.length + 2) := by
          rw [nI_add]; exact nI_pred (r.length + 2)
        have h1 : nI r.length + 1 = nI (r.length + 1) := nI_1 _
        have hx : ys (nI (r.length + 2)).toNatClampNeg = x := by rw [nI_clamp (by omega)]; exact hk.1
        have hy : ys (nI r.length + 1).toNatClampNeg = y := by rw [h1, nI_clamp (by omega)]; exact hk.2.1
        have hw : ys (nI r.length).toNatClampNeg = w := by rw [nI_clamp (by omega)]; exact hk.2.2.1
        refine ⟨vp_in_nI (by omega) (by omega), ?_⟩
        rw [hw]
        refine pk_eq c 27 (fun h27 => absurd h28 (by omega)) (fun h27 => br_t (by rw [h28]; rfl) ⟨by rw [h1]; exact vp_in_nI (by omega) (by omega), ?_⟩)
        rw [hy]
        unfold wY_work_131
        refine fy_ar hc100 ?_
        rw [ha, h2]
        refine ⟨vp_in_nI (by omega) (by omega), ?_⟩
        rw [hx]
        refine nm_e (br_t (by rw [h28]; rfl) ?_)
        refine br_c (fun z => ?_) (fun z => ?_)
        · rw [if_pos z] at hv
          exact fin r w hk.2.2.2 (by omega) hv
        · rw [if_neg z] at hv
          exact fin r y hk.2.2.2 (by omega) hv
      · refine pk_eq c 27 (fun h27 => ?_) (fun h27 => br_f (fun z => h28 ((nI_eq (b := 28) (by omega) (by omega)).mp z)) ?_)
        · have ha : fc_a c = 1 := by subst h27; rfl
          obtain ⟨x, r, rfl⟩ := fc_l1 (l := l) (by omega)
          have hrl : (x :: r).length = r.length + 1 := rfl
          have e3 : x3 = nI r.length := by rw [e3, ha, pk_sub (by omega), hrl, Nat.add_sub_cancel]
          rw [fc_op1 _ _ _ h27] at hv
          rw [e3]
          have h2 : nI r.length + nI 1 - 1 = nI r.length := by
            rw [nI_add]; exact nI_pred r.length
          have hx : ys (nI r.length).toNatClampNeg = x := by rw [nI_clamp (by omega)]; exact hk.1
          unfold wY_work_131
          refine fy_ar hc100 ?_
          rw [ha, h2]
          refine ⟨vp_in_nI (by omega) (by omega), ?_⟩
          rw [hx]
          refine nm_e (br_f (fun z => h28 ((nI_eq (b := 28) (by omega) (by omega)).mp z)) ?_)
          rw [h27]
          refine fy_c27 ?_
          exact fin r _ hk.2 (by omega) hv
        · have ha : fc_a c = 2 := fc_a2 (by omega) h27 h28
          obtain ⟨x, y, r, rfl⟩ := fc_l2 (l := l) (by omega)
          have hrl : (x :: y :: r).length = r.length + 2 := rfl
          have e3 : x3 = nI r.length := by rw [e3, ha, pk_sub (by omega), hrl, Nat.add_sub_cancel]
          rw [fc_op2 _ _ _ _ h20 h27 h28] at hv
          rw [e3]
          have h2 : nI r.length + nI 2 - 1 = nI (r.length + 1) := by
            rw [nI_add]; exact nI_pred (r.length + 1)
          have hx : ys (nI (r.length + 1)).toNatClampNeg = x := by rw [nI_clamp (by omega)]; exact hk.1
          have hy : ys (nI r.length).toNatClampNeg = y := by rw [nI_clamp (by omega)]; exact hk.2.1
          refine ⟨vp_in_nI (by omega) (by omega), ?_⟩
          rw [hy]
          unfold wY_work_131
          refine fy_ar hc100 ?_
          rw [ha, h2]
          refine ⟨vp_in_nI (by omega) (by omega), ?_⟩
          rw [hx]
          refine nm_e (br_f (fun z => h28 ((nI_eq (b := 28) (by omega) (by omega)).mp z)) ?_)
          refine fy_cb h20 (by unfold fc_nc at hc; omega) ?_
          exact fin r _ hk.2.2 (by omega) hv
    · have h12 : c ≤ 12 := by unfold fc_nc at hc; omega
      have ha : fc_a c = 0 := fc_a0 (by omega)
      rw [fc_opv _ _ h10 h12] at hv
      have h1 : nI c - 10 = nI (c - 10) := pk_sub (a := c) (b := 10) h10
      rw [h1]
      refine fy_vo hz hs (by omega) ?_
      exact fin l _ hk (by omega) hv
    · have ha : fc_a c = 0 := fc_a0 (by omega)
      have h4 : c ≤ 4 := by unfold fc_nc at hc; omega
      rw [fc_opn _ _ h4] at hv
      exact fin l _ hk (by omega) hv
theorem fy_wk {post : Int32 → SY → Prop} (hz : fc_Z sz) {j s : Nat} (hj : j < 19) (hs : s < fc_N sz) (ok : fc_ok yk yl j)
    (hp : ∀ sk', post (fc_w sz yk yl j s) (kn, te, fl, yk, yl, sz, th, fa, ef, go, gu, ye, yd, wa, al, yc, tr, fd, sk')) : wpY_work post (kn, te, fl, yk, yl, sz, th, fa, ef, go, gu, ye, yd, wa, al, yc, tr, fd, ys) (nI j) (nI s) := by
  have hL := ok.1.2.1
  refine ⟨vp_in_nI hj (by omega), ?_⟩
  rw [nI_clamp (by omega)]
  refine nm_r (e' := nI (fc_L yl j) + (-1)) ?_ ⟨fc_L yl j + 1, ?_⟩
  · rw [← fn_sub1, ← ok.1.1]
  · exact fy_w12 hz hj hs ok hp _ (Nat.le_refl _) [] ys _ ok.2.2.symm trivial rfl (by omega)
theorem fy_is {post : Int32 → SY → Prop} (hz : fc_Z sz) {j s : Nat} (hj : j < 19) (hs : s < fc_N sz) (ok : fc_L yl j = 0 ∨ fc_ok yk yl j) (hl : yl j = nI (fc_L yl j)) (hb : fc_L yl j ≤ 12)
    (hp : ∀ sk', post (if fc_tr sz yk yl j s then 1 else 0) (kn, te, fl, yk, yl, sz, th, fa, ef, go, gu, ye, yd, wa, al, yc, tr, fd, sk')) : wpY_isTrue post (kn, te, fl, yk, yl, sz, th, fa, ef, go, gu, ye, yd, wa, al, yc, tr, fd, ys) (nI j) (nI s) := by
  refine ⟨vp_in_nI hj (by omega), ?_⟩
  rw [nI_clamp (by omega)]
  unfold fc_tr at hp
  refine pk_eq (fc_L yl j) 0 (fun e => ?_) (fun e => ?_) hl
  · have := hp ys
    rw [decide_eq_true e, Bool.true_or, if_pos rfl] at this
    exact this
  · refine fy_wk hz hj hs (ok.resolve_left e) (fun sk' => ?_)
    have := hp sk'
    rw [decide_eq_false e, Bool.false_or] at this
    refine br_c (fun z => ?_) (fun z => ?_)
    · rw [decide_eq_false (fun k => k z), if_neg (by decide)] at this
      exact this
    · rw [decide_eq_true z, if_pos rfl] at this
      exact this
end FYW
