section FXW
variable {tl fc : Int32} {sz tk ln an fa sk lw hg mv en dp ca rc : Nat → Int32} {re : Nat → Int64} {ho ae ta ow ts fs : Nat → Int32}
theorem fc_opn {c : Nat} (vl : Nat → Int32) (l : List Int32) (h : c ≤ 4) : fc_op c vl l = nI c :: l := if_pos (by omega)
theorem fc_opv {c : Nat} (vl : Nat → Int32) (l : List Int32) (h : 10 ≤ c) (h2 : c ≤ 12) : fc_op c vl l = vl (c - 10) :: l := by
  unfold fc_op; rw [if_neg (by omega), if_pos (by omega)]
theorem fc_op1 {c : Nat} (vl : Nat → Int32) (x : Int32) (r : List Int32) (h : c = 27) : fc_op c vl (x :: r) = (if x = 0 then 1 else 0) :: r := by
  subst h; rfl
theorem fc_op3 {c : Nat} (vl : Nat → Int32) (x y z : Int32) (r : List Int32) (h : c = 28) : fc_op c vl (x :: y :: z :: r) = (if x = 0 then z else y) :: r := by
  subst h; rfl
theorem fc_op2 {c : Nat} (vl : Nat → Int32) (x y : Int32) (r : List Int32) (h : 20 ≤ c) (h1 : c ≠ 27) (h2 : c ≠ 28) : fc_op c vl (x :: y :: r) = fc_bin c x y :: r := by
  unfold fc_op; rw [if_neg (by omega), if_neg (by omega), if_neg h1, if_neg h2]; rfl
theorem fc_l1 {l : List Int32} (h : 1 ≤ l.length) : ∃ x r, l = x :: r := by
  cases l with
  | nil => simp at h
  | cons x r => exact ⟨x, r, rfl⟩
theorem fc_l2 {l : List Int32} (h : 2 ≤ l.length) : ∃ x y r, l = x :: y :: r := by
  obtain ⟨x, r, rfl⟩ := fc_l1 (by omega : 1 ≤ l.length)
  obtain ⟨y, q, rfl⟩ := fc_l1 (l := r) (by simp at h; omega)
  exact ⟨x, y, q, rfl⟩
theorem fc_l3 {l : List Int32} (h : 3 ≤ l.length) : ∃ x y z r, l = x :: y :: z :: r := by
  obtain ⟨x, y, r, rfl⟩ := fc_l2 (by omega : 2 ≤ l.length)
  obtain ⟨z, q, rfl⟩ := fc_l1 (l := r) (by simp at h; omega)
  exact ⟨x, y, z, q, rfl⟩
theorem fx_w12 {post : Int32 → SX → Prop} (hz : fc_Z sz) {j s : Nat} (hj : j < 19) (hs : s < 2 ^ 31) (ok : fc_ok tk ln j)
    (hp : ∀ sk', post (fc_w sz tk ln j s) (tl, fc, sz, tk, ln, an, fa, sk', lw, hg, mv, en, dp, ca, rc, re, ho, ae, ta, ow, ts, fs)) : ∀ i, i ≤ fc_L ln j → ∀ (l : List Int32) (sk : Nat → Int32) (n : Nat), l.length = fc_ms (fc_T tk j) i → fc_SK sk l →
    fc_run (fc_T tk j) (fun v => nI (fc_v sz s v)) i l = fc_w sz tk ln j s → i < n → wX_work_12 post (nI j) (nI s) tl fc n (nI l.length) (nI i + (-1)) sz tk ln an fa sk lw hg mv en dp ca rc re ho ae ta ow ts fs := by
  intro i
  have hL := ok.1.2.1
  induction i with
  | zero =>
    intro _ l sk n hl hk hv hn
    obtain ⟨n, rfl⟩ : ∃ m, n = m + 1 := ⟨n - 1, by omega⟩
    obtain ⟨x, r, rfl⟩ := fc_l1 (l := l) (by rw [hl]; exact Nat.le_refl _)
    have hr : r.length = 0 := by
      have : (x :: r).length = 1 := hl
      simp at this; simp [this]
    refine br_t (by decide) ?_
    have h0 : sk 0 = fc_w sz tk ln j s := by
      rw [← hv]
      have := hk.1
      rw [hr] at this
      exact this
    rw [h0]
    exact hp sk
  | succ i ih =>
    intro hi l sk n hl hk hv hn
    obtain ⟨n, rfl⟩ : ∃ m, n = m + 1 := ⟨n - 1, by omega⟩
    rw [pk_m1]
    have hd := fc_ms_dn ok.2 (fc_L ln j - i) i (by omega)
    have hd1 := fc_ms_dn ok.2 (fc_L ln j - (i + 1)) (i + 1) (by omega)
    have hm0 := ok.2.1 i (by omega)
    have hms : fc_ms (fc_T tk j) (i + 1) = fc_ms (fc_T tk j) i + fc_a (fc_T tk j i) - 1 := rfl
    obtain ⟨ht, hc⟩ := fc_nmc (ok.1.2.2 i (by omega))
    have ht : tk (j * 12 + i) = nI (fc_T tk j i) := ht
    have hc : fc_nc (fc_T tk j i) := hc
    have hc100 := fc_nc100 hc
    have hv : fc_run (fc_T tk j) (fun v => nI (fc_v sz s v)) i (fc_op (fc_T tk j i) (fun v => nI (fc_v sz s v)) l) = fc_w sz tk ln j s := hv
    have hy : nI j * 12 + nI i = nI (j * 12 + i) := by
      rw [← nI_add, ← pk_mul]; rfl
    generalize fc_T tk j i = c at *
    have fin : ∀ (r : List Int32) (val : Int32), fc_SK sk r → r.length + 1 = fc_ms (fc_T tk j) i → fc_run (fc_T tk j) (fun v => nI (fc_v sz s v)) i (val :: r) = fc_w sz tk ln j s →
        vp_in (nI r.length) 12 ∧ (∀ st, st = upd sk (nI r.length).toNatClampNeg val → ∀ x3', x3' = nI r.length + 1 → ∀ x4', x4' = nI i + (-1) → wX_work_12 post (nI j) (nI s) tl fc n x3' x4' sz tk ln an fa st lw hg mv en dp ca rc re ho ae ta ow ts fs) := by
      intro r val hr hrl hrv
      refine ⟨vp_in_nI (by omega) (by omega), ?_⟩
      rw [nI_clamp (by omega)]
      refine nm_e (nm_r (nI_1 _) (nm_e ?_))
      exact ih (by omega) (val :: r) _ n hrl (fc_SKc hr) hrv (by omega)
    refine br_f (nI_pos (by omega)) ?_
    rw [hy]
    refine ⟨vp_in_nI (by omega) (by omega), ?_⟩
    rw [nI_clamp (by omega), ht]
    refine nm_e (fx_op hc100 ?_)
    intro x3 e3
    refine pk_lt 4 c (fun h4 => pk_lt 12 c (fun h12 => ?_) (fun h12 => ?_)) (fun h4 => ?_)
    · have h20 : 20 ≤ c := by unfold fc_nc at hc; omega
      refine pk_eq c 27 (fun h27 => ?_) (fun h27 => pk_eq c 28 (fun h28 => ?_) (fun h28 => ?_))
      · have ha : fc_a c = 1 := by subst h27; rfl
        obtain ⟨x, r, rfl⟩ := fc_l1 (l := l) (by omega)
        have hrl : (x :: r).length = r.length + 1 := rfl
        have e3 : x3 = nI r.length := by rw [e3, ha, pk_sub (by omega), hrl, Nat.add_sub_cancel]
        rw [fc_op1 _ _ _ h27] at hv
        rw [e3]
        refine ⟨vp_in_nI (by omega) (by omega), ?_⟩
        have hx : sk (nI r.length).toNatClampNeg = x := by rw [nI_clamp (by omega)]; exact hk.1
        rw [hx]
        refine br_c (fun z => ?_) (fun z => ?_)
        · rw [if_pos z] at hv
          exact fin r 1 hk.2 (by omega) hv
        · rw [if_neg z] at hv
          exact fin r 0 hk.2 (by omega) hv
      · have ha : fc_a c = 3 := by subst h28; rfl
        obtain ⟨x, y, w, r, rfl⟩ := fc_l3 (l := l) (by omega)
        have hrl : (x :: y :: w :: r).length = r.length + 3 := rfl
        have e3 : x3 = nI r.length := by rw [e3, ha, pk_sub (by omega), hrl, Nat.add_sub_cancel]
        rw [fc_op3 _ _ _ _ _ h28] at hv
        rw [e3]
        have h2 : nI r.length + 2 = nI (r.length + 2) := by rw [← nI_add]; rfl
        have h1 : nI r.length + 1 = nI (r.length + 1) := nI_1 _
        have hx : sk (nI r.length + 2).toNatClampNeg = x := by rw [h2, nI_clamp (by omega)]; exact hk.1
        have hy : sk (nI r.length + 1).toNatClampNeg = y := by rw [h1, nI_clamp (by omega)]; exact hk.2.1
        have hw : sk (nI r.length).toNatClampNeg = w := by rw [nI_clamp (by omega)]; exact hk.2.2.1
        refine ⟨by rw [h2]; exact vp_in_nI (by omega) (by omega), ?_⟩
        rw [hx]
        refine br_c (fun z => ?_) (fun z => ?_)
        · rw [if_pos z] at hv
          refine ⟨vp_in_nI (by omega) (by omega), ?_⟩
          rw [hw]
          exact fin r w hk.2.2.2 (by omega) hv
        · rw [if_neg z] at hv
          refine ⟨by rw [h1]; exact vp_in_nI (by omega) (by omega), ?_⟩
          rw [hy]
          exact fin r y hk.2.2.2 (by omega) hv
      · have ha : fc_a c = 2 := fc_a2 (by omega) h27 h28
        obtain ⟨x, y, r, rfl⟩ := fc_l2 (l := l) (by omega)
        have hrl : (x :: y :: r).length = r.length + 2 := rfl
        have e3 : x3 = nI r.length := by rw [e3, ha, pk_sub (by omega), hrl, Nat.add_sub_cancel]
        rw [fc_op2 _ _ _ _ h20 h27 h28] at hv
        rw [e3]
        have h1 : nI r.length + 1 = nI (r.length + 1) := nI_1 _
        have hx : sk (nI r.length + 1).toNatClampNeg = x := by rw [h1, nI_clamp (by omega)]; exact hk.1
        have hy : sk (nI r.length).toNatClampNeg = y := by rw [nI_clamp (by omega)]; exact hk.2.1
        refine ⟨by rw [h1]; exact vp_in_nI (by omega) (by omega), vp_in_nI (by omega) (by omega), ?_⟩
        rw [hx, hy]
        refine fx_cb h20 (by unfold fc_nc at hc; omega) ?_
        exact fin r _ hk.2.2 (by omega) hv
    · have h10 : 10 ≤ c := by unfold fc_nc at hc; omega
      have ha : fc_a c = 0 := fc_a0 (by omega)
      have e3 : x3 = nI l.length := by rw [e3, ha, pk_sub (by omega), Nat.sub_zero]
      rw [fc_opv _ _ h10 h12] at hv
      have h1 : nI c - 10 = nI (c - 10) := pk_sub (a := c) (b := 10) h10
      rw [h1, e3]
      refine fx_vi hz hs (by omega) ?_
      exact fin l _ hk (by omega) hv
    · have ha : fc_a c = 0 := fc_a0 (by omega)
      have e3 : x3 = nI l.length := by rw [e3, ha, pk_sub (by omega), Nat.sub_zero]
      rw [fc_opn _ _ h4] at hv
      rw [e3]
      exact fin l _ hk (by omega) hv
theorem fx_wk {post : Int32 → SX → Prop} (hz : fc_Z sz) {j s : Nat} (hj : j < 19) (hs : s < 2 ^ 31) (ok : fc_ok tk ln j)
    (hp : ∀ sk', post (fc_w sz tk ln j s) (tl, fc, sz, tk, ln, an, fa, sk', lw, hg, mv, en, dp, ca, rc, re, ho, ae, ta, ow, ts, fs)) : wpX_work post (tl, fc, sz, tk, ln, an, fa, sk, lw, hg, mv, en, dp, ca, rc, re, ho, ae, ta, ow, ts, fs) (nI j) (nI s) := by
  have hL := ok.1.2.1
  refine ⟨vp_in_nI hj (by omega), ?_⟩
  rw [nI_clamp (by omega)]
  refine nm_r (e' := nI (fc_L ln j) + (-1)) ?_ ⟨fc_L ln j + 1, ?_⟩
  · rw [← fn_sub1, ← ok.1.1]
  · exact fx_w12 hz hj hs ok hp _ (Nat.le_refl _) [] sk _ ok.2.2.symm trivial rfl (by omega)
theorem fx_is {post : Int32 → SX → Prop} (hz : fc_Z sz) {j s : Nat} (hj : j < 19) (hs : s < 2 ^ 31) (ok : fc_L ln j = 0 ∨ fc_ok tk ln j) (hl : ln j = nI (fc_L ln j)) (hb : fc_L ln j ≤ 12)
    (hp : ∀ sk', post (if fc_tr sz tk ln j s then 1 else 0) (tl, fc, sz, tk, ln, an, fa, sk', lw, hg, mv, en, dp, ca, rc, re, ho, ae, ta, ow, ts, fs)) : wpX_isTrue post (tl, fc, sz, tk, ln, an, fa, sk, lw, hg, mv, en, dp, ca, rc, re, ho, ae, ta, ow, ts, fs) (nI j) (nI s) := by
  refine ⟨vp_in_nI hj (by omega), ?_⟩
  rw [nI_clamp (by omega)]
  unfold fc_tr at hp
  refine pk_eq (fc_L ln j) 0 (fun e => ?_) (fun e => ?_) hl
  · have := hp sk
    rw [decide_eq_true e, Bool.true_or, if_pos rfl] at this
    exact this
  · refine fx_wk hz hj hs (ok.resolve_left e) (fun sk' => ?_)
    have := hp sk'
    rw [decide_eq_false e, Bool.false_or] at this
    refine br_c (fun z => ?_) (fun z => ?_)
    · rw [decide_eq_false (fun k => k z), if_neg (by decide)] at this
      exact this
    · rw [decide_eq_true z, if_pos rfl] at this
      exact this
end FXW
