section FDR
variable {tl fc : Int32} {sz tk ln an fa sk lw hg mv en dp ca rc : Nat → Int32} {re : Nat → Int64} {ho ae ta ow ts fs : Nat → Int32} {kn te fl : Int32} {yk yl th ef : Nat → Int32} {go : Nat → Int64} {gu ye yd : Nat → Int32} {wa al yc : Nat → Int64} {tr fd ys : Nat → Int32}
/-! a draft refused: it is emptied -/
theorem fr_d {k : Nat} (I : i_Rel k (tl, fc, sz, tk, ln, an, fa, sk, lw, hg, mv, en, dp, ca, rc, re, ho, ae, ta, ow, ts, fs) (kn, te, fl, yk, yl, sz, th, fa, ef, go, gu, ye, yd, wa, al, yc, tr, fd, ys)) : i_Rel k (tl, fc, sz, tk, upd ln 0 0, an, fa, sk, lw, hg, mv, en, dp, ca, rc, re, ho, ae, ta, ow, ts, fs) (kn, te, fl, yk, upd yl 0 0, sz, th, fa, ef, go, gu, ye, yd, wa, al, yc, tr, fd, ys) := by
  obtain ⟨_, _, S, Y, Fa, K, T, F⟩ := I
  exact ⟨rfl, rfl, fx_Sc (fun m h1 _ => fs_d h1) (fs_sh0 pk_us) S, fy_Sc (fun m h1 _ => fs_d h1) (fun m h1 _ => fs_d h1) ⟨by rw [pk_us, pk_us], fun i hi => absurd hi (by rw [fs_L0 pk_us]; omega)⟩ Y, Fa, fr_kc (fun m h1 _ => fs_d h1) K, T, F⟩
theorem fy_oe {A B : Prop} (hs : fc_sh yk yl 0) (h1 : (fc_L yl 0 = 0 ∨ fc_ex (fc_T yk 0) (fc_L yl 0)) → A) (h0 : ¬ (fc_L yl 0 = 0 ∨ fc_ex (fc_T yk 0) (fc_L yl 0)) → B) : (yl 0 = 0 → A) ∧ (¬ yl 0 = 0 → wpY_isExpression (fun r => (r = 0 → B) ∧ (¬ r = 0 → A)) (kn, te, fl, yk, yl, sz, th, fa, ef, go, gu, ye, yd, wa, al, yc, tr, fd, ys) 0) := by
  have h12 := hs.2.1
  refine pk_eq (fc_L yl 0) 0 (fun e => h1 (Or.inl e)) (fun e => ?_) hs.1
  exact fy_ie hs (fun k => br_f (by decide) (h1 (Or.inr k))) (fun k => br_t rfl (h0 (fun z => z.elim e k)))
theorem fs_fit (sm : fc_sm tk ln 0 yk yl 0) : (fc_L yl 0 = 0 ∨ fc_ex (fc_T yk 0) (fc_L yl 0)) ↔ (fc_L ln 0 = 0 ∨ fc_ex (fc_T tk 0) (fc_L ln 0)) := by
  obtain ⟨a, b⟩ := fc_sm_T sm
  rw [a]
  exact ⟨fun h => h.imp id (fc_ex_cg b), fun h => h.imp id (fc_ex_cg (fun i hi => (b i hi).symm))⟩
theorem fs_exq (sm : fc_sm tk ln 0 yk yl 0) : fc_ex (fc_T yk 0) (fc_L yl 0) ↔ fc_ex (fc_T tk 0) (fc_L ln 0) := by
  obtain ⟨a, b⟩ := fc_sm_T sm
  rw [a]
  exact ⟨fc_ex_cg b, fc_ex_cg (fun i hi => (b i hi).symm)⟩
theorem fs_fx {tk ln : Nat → Int32} (hs : fc_sh tk ln 0) (h : fc_L ln 0 = 0 ∨ fc_ex (fc_T tk 0) (fc_L ln 0)) : fx_s tk ln 0 := ⟨hs.1, hs.2.1, h.imp id (fun e => ⟨hs, e⟩)⟩
/-- what a taken draft leaves: X's side -/
theorem fs_tX {j : Nat} {tq : Nat → Int32} (hj : 1 ≤ j) (S : fx_S sz tk ln) (hf : fx_s tk ln 0) (h : fc_cp tk tq j (fc_L ln 0)) : fx_S sz tq (upd (upd ln j (ln 0)) 0 0) := by
  refine fs_Z.mpr ⟨S.1, fs_sh0 pk_us, fun m h1 h2 => ?_⟩
  by_cases e : m = j
  · subst e; exact fs_m (fs_cj hj h) hf
  · exact fs_m (fs_co h1 e (S.2.2 m h1 h2).2.1 S.2.1.2.1 h) (S.2.2 m h1 h2)
theorem fs_tS {j k : Nat} {tq yq : Nat → Int32} (hj : 1 ≤ j) (hk : 1 ≤ k) (sm : fc_sm tk ln 0 yk yl 0) (h : fc_cp tk tq j (fc_L ln 0)) (g : fc_cp yk yq k (fc_L yl 0)) : fc_sm tq (upd (upd ln j (ln 0)) 0 0) j yq (upd (upd yl k (yl 0)) 0 0) k :=
  fs_t (fs_s (fs_cj hj h)) (fs_t sm (fs_cj hk g))
theorem fs_tO {m l j k : Nat} {tq yq : Nat → Int32} (S : fx_S sz tk ln) (sm0 : fc_sm tk ln 0 yk yl 0) (h : fc_cp tk tq j (fc_L ln 0)) (g : fc_cp yk yq k (fc_L yl 0)) (m1 : 1 ≤ m) (m2 : m < 19) (mj : m ≠ j) (l1 : 1 ≤ l) (lk : l ≠ k) (sm : fc_sm tk ln m yk yl l) : fc_sm tq (upd (upd ln j (ln 0)) 0 0) m yq (upd (upd yl k (yl 0)) 0 0) l := by
  have hL := (S.2.2 m m1 m2).2.1
  have hL0 := S.2.1.2.1
  exact fs_t (fs_s (fs_co m1 mj hL hL0 h)) (fs_t sm (fs_co l1 lk (by rw [fs_L sm]; exact hL) (by rw [fs_L sm0]; exact hL0) g))
theorem fs_t0 {j k : Nat} {tq yq : Nat → Int32} : fc_sm tq (upd (upd ln j (ln 0)) 0 0) 0 yq (upd (upd yl k (yl 0)) 0 0) 0 :=
  ⟨by rw [pk_us, pk_us], fun i hi => absurd hi (by rw [fs_L0 pk_us]; omega)⟩
theorem fs_tL {j m : Nat} (m1 : 1 ≤ m) (mj : m ≠ j) : fc_L (upd (upd ln j (ln 0)) 0 0) m = fc_L ln m := by
  unfold fc_L; rw [pk_un (by omega), pk_un mj]
theorem fs_tLj {j : Nat} (m1 : 1 ≤ j) : fc_L (upd (upd ln j (ln 0)) 0 0) j = fc_L ln 0 := by
  unfold fc_L; rw [pk_un (by omega), pk_us]
/-- init and hold -/
theorem fr_ih {k j : Nat} {tq yq : Nat → Int32} (hj1 : 1 ≤ j) (hj2 : j < 3) (I : i_Rel k (tl, fc, sz, tk, ln, an, fa, sk, lw, hg, mv, en, dp, ca, rc, re, ho, ae, ta, ow, ts, fs) (kn, te, fl, yk, yl, sz, th, fa, ef, go, gu, ye, yd, wa, al, yc, tr, fd, ys)) (hf : fc_L ln 0 = 0 ∨ fc_ex (fc_T tk 0) (fc_L ln 0)) (h : fc_cp tk tq j (fc_L ln 0)) (g : fc_cp yk yq j (fc_L yl 0)) : i_Rel k (tl, fc, sz, tq, upd (upd ln j (ln 0)) 0 0, an, fa, sk, lw, hg, mv, en, dp, ca, rc, re, ho, ae, ta, ow, ts, fs) (0, te, fl, yq, upd (upd yl j (yl 0)) 0 0, sz, th, fa, ef, go, gu, ye, yd, wa, al, yc, tr, fd, ys) := by
  obtain ⟨_, _, S, Y, Fa, K, T, F⟩ := I
  have sm0 := Y.1 0 (by omega)
  refine ⟨rfl, rfl, fs_tX hj1 S (fs_fx S.2.1 hf) h, ⟨fun m hm => ?_, fun a ha => ?_⟩, Fa, Or.inl rfl, T, F⟩
  · by_cases e0 : m = 0
    · subst e0; exact fs_t0
    · by_cases e : m = j
      · subst e; exact fs_tS hj1 hj1 sm0 h g
      · exact fs_tO S sm0 h g (by omega) (by omega) e (by omega) e (Y.1 m hm)
  · rw [fs_tL (by omega) (by omega)]
    rcases Y.2 a ha with q | ⟨q1, q2, q3, q4⟩
    · exact Or.inl q
    · refine Or.inr ⟨q1, q2, fs_tO S sm0 h g (by omega) (by omega) (by omega) (by omega) (by omega) q3, fun v hv => ?_⟩
      unfold fy_e
      rw [fs_tL (by omega) (by omega)]
      rcases q4 v hv with q | ⟨w1, w2, w3⟩ | q
      · exact Or.inl q
      · exact Or.inr (Or.inl ⟨w1, w2, fs_tO S sm0 h g (by omega) (by omega) (by omega) (by omega) (by omega) w3⟩)
      · exact Or.inr (Or.inr q)
theorem i_vc_init_ {k : Nat} {u : SX} {v : SY} (I : i_Rel k u v) (hk : k + 4 ≤ 2048) : wpX_init_ (fun r u' => wpY_init_ (fun r' v' => r' = r ∧ i_Rel (k + 4) u' v') v) u := by
  obtain ⟨tl, fc, sz, tk, ln, an, fa, sk, lw, hg, mv, en, dp, ca, rc, re, ho, ae, ta, ow, ts, fs⟩ := u
  obtain ⟨kn, te, fl, yk, yl, vs, th, yf, ef, go, gu, ye, yd, wa, al, yc, tr, fd, ys⟩ := v
  have I : i_Rel (k + 4) (tl, fc, sz, tk, ln, an, fa, sk, lw, hg, mv, en, dp, ca, rc, re, ho, ae, ta, ow, ts, fs) (kn, te, fl, yk, yl, vs, th, yf, ef, go, gu, ye, yd, wa, al, yc, tr, fd, ys) := I
  obtain ⟨rfl, rfl, S, Y, Fa, K, T, F⟩ := id I
  have sm0 := Y.1 0 (by omega)
  unfold wpX_init_
  refine fx_de S.2.1 (fun hf => ?_) (fun hf => fx_ud0 ⟨fn_n0, ?_⟩)
  · refine fx_ud1 (j := 1) (by omega) (by omega) S.2.1 (fun tq h => ⟨fn_n1, ?_⟩)
    refine fy_oe (fc_sm_sh sm0 S.2.1) (fun _ => ?_) (fun z => absurd ((fs_fit sm0).mpr hf) z)
    unfold wY_init__18 wY_init__23
    exact fy_tk1 (j := 1) (by omega) (by omega) (fc_sm_sh sm0 S.2.1) (fun yq g => ⟨fn_n1, rfl, fr_ih (by omega) (by omega) I hf h g⟩)
  · refine fy_oe (fc_sm_sh sm0 S.2.1) (fun z => absurd ((fs_fit sm0).mp z) hf) (fun _ => ?_)
    exact fy_tk0 ⟨fn_n0, rfl, fr_d I⟩
theorem i_vc_hold {k : Nat} {u : SX} {v : SY} (I : i_Rel k u v) (hk : k + 4 ≤ 2048) : wpX_hold (fun r u' => wpY_hold (fun r' v' => r' = r ∧ i_Rel (k + 4) u' v') v) u := by
  obtain ⟨tl, fc, sz, tk, ln, an, fa, sk, lw, hg, mv, en, dp, ca, rc, re, ho, ae, ta, ow, ts, fs⟩ := u
  obtain ⟨kn, te, fl, yk, yl, vs, th, yf, ef, go, gu, ye, yd, wa, al, yc, tr, fd, ys⟩ := v
  have I : i_Rel (k + 4) (tl, fc, sz, tk, ln, an, fa, sk, lw, hg, mv, en, dp, ca, rc, re, ho, ae, ta, ow, ts, fs) (kn, te, fl, yk, yl, vs, th, yf, ef, go, gu, ye, yd, wa, al, yc, tr, fd, ys) := I
  obtain ⟨rfl, rfl, S, Y, Fa, K, T, F⟩ := id I
  have sm0 := Y.1 0 (by omega)
  unfold wpX_hold
  refine fx_de S.2.1 (fun hf => ?_) (fun hf => fx_ud0 ⟨fn_n0, ?_⟩)
  · refine fx_ud1 (j := 2) (by omega) (by omega) S.2.1 (fun tq h => ⟨fn_n1, ?_⟩)
    refine fy_oe (fc_sm_sh sm0 S.2.1) (fun _ => ?_) (fun z => absurd ((fs_fit sm0).mpr hf) z)
    unfold wY_hold_18 wY_hold_23
    exact fy_tk1 (j := 2) (by omega) (by omega) (fc_sm_sh sm0 S.2.1) (fun yq g => ⟨fn_n1, rfl, fr_ih (by omega) (by omega) I hf h g⟩)
  · refine fy_oe (fc_sm_sh sm0 S.2.1) (fun z => absurd ((fs_fit sm0).mp z) hf) (fun _ => ?_)
    exact fy_tk0 ⟨fn_n0, rfl, fr_d I⟩
end FDR
