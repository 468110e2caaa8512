section FEF
variable {tl fc : Int32} {sz tk ln an fa sk lw hg mv en dp ca rc : Nat → Int32} {re : Nat → Int64} {ho ae ta ow ts fs : Nat → Int32} {kn te fl : Int32} {yk yl th ef : Nat → Int32} {go : Nat → Int64} {gu ye yd : Nat → Int32} {wa al yc : Nat → Int64} {tr fd ys : Nat → Int32}
theorem fr_ef {k a w : Nat} {x e : Int32} {tq yq : Nat → Int32} (ha : a < 4) (hw : w < 3) (I : i_Rel k (tl, fc, sz, tk, ln, an, fa, sk, lw, hg, mv, en, dp, ca, rc, re, ho, ae, ta, ow, ts, fs) (kn, te, fl, yk, yl, sz, th, fa, ef, go, gu, ye, yd, wa, al, yc, tr, fd, ys)) (hth : th a ≠ 0) (hf : fc_L ln 0 = 0 ∨ fc_ex (fc_T tk 0) (fc_L ln 0))
    (he : (fc_L ln 0 ≠ 0 ∧ e = 1) ∨ (fc_L ln 0 = 0 ∧ x = 0 ∧ e = 0) ∨ (fc_L ln 0 = 0 ∧ x ≠ 0 ∧ e = 2))
    (h : fc_cp tk tq (7 + a * 3 + w) (fc_L ln 0)) (g : fc_cp yk yq (3 + 4 * a + 1 + w) (fc_L yl 0)) :
    i_Rel k (tl, fc, sz, tq, upd (upd ln (7 + a * 3 + w) (ln 0)) 0 0, upd an (a * 3 + w) x, fa, sk, lw, hg, mv, en, dp, ca, rc, re, ho, ae, ta, ow, ts, fs) (0, te, fl, yq, upd (upd yl (3 + 4 * a + 1 + w) (yl 0)) 0 0, sz, th, fa, upd ef (a * 3 + w) e, go, gu, ye, yd, wa, al, yc, tr, fd, ys) := by
  obtain ⟨_, _, S, Y, Fa, K, T, F⟩ := I
  have sm0 := Y.1 0 (by omega)
  refine ⟨rfl, rfl, fs_tX (by omega) S (fs_fx S.2.1 hf) h, ⟨fun m hm => ?_, fun b hb => ?_⟩, Fa, Or.inl rfl, T, F⟩
  · by_cases e0 : m = 0
    · subst e0; exact fs_t0
    · exact fs_tO S sm0 h g (by omega) (by omega) (by omega) (by omega) (by omega) (Y.1 m hm)
  · rw [fs_tL (by omega) (by omega)]
    rcases Y.2 b hb with q | ⟨q1, q2, q3, q4⟩
    · exact Or.inl q
    · refine Or.inr ⟨q1, q2, fs_tO S sm0 h g (by omega) (by omega) (by omega) (by omega) (by omega) q3, fun v hv => ?_⟩
      by_cases ee : b = a ∧ v = w
      · obtain ⟨rfl, rfl⟩ := ee
        unfold fy_e
        rw [← Nat.add_assoc, fs_tLj (by omega), pk_us, pk_us]
        rcases he with ⟨r1, r2⟩ | ⟨r1, r2, r3⟩ | ⟨r1, r2, r3⟩
        · exact Or.inr (Or.inl ⟨r2, r1, fs_tS (by omega) (by omega) sm0 h g⟩)
        · exact Or.inl ⟨r3, r1, r2⟩
        · exact Or.inr (Or.inr ⟨r3, r1, r2⟩)
      · unfold fy_e
        rw [fs_tL (by omega) (by omega), pk_un (by omega), pk_un (by omega)]
        rcases q4 v hv with q | ⟨w1, w2, w3⟩ | q
        · exact Or.inl q
        · exact Or.inr (Or.inl ⟨w1, w2, fs_tO S sm0 h g (by omega) (by omega) (by omega) (by omega) (by omega) w3⟩)
        · exact Or.inr (Or.inr q)
theorem fy_e0 {post : Int32 → SY → Prop} {x y z : Int32} (h : post 0 (kn, te, fl, yk, upd yl 0 0, sz, th, fa, ef, go, gu, ye, yd, wa, al, yc, tr, fd, ys)) : wY_effect_48 post x y z kn te fl yk yl sz th fa ef go gu ye yd wa al yc tr fd ys := by
  refine br_t rfl (br_t rfl ?_)
  unfold wY_effect_109
  exact fy_tk0 ⟨fn_n0, h⟩
theorem fx_e40 {post : Int32 → SX → Prop} {x y z : Int32} (h : post 0 (tl, fc, sz, tk, upd ln 0 0, an, fa, sk, lw, hg, mv, en, dp, ca, rc, re, ho, ae, ta, ow, ts, fs)) : wX_effect_40 post x y z tl fc sz tk ln an fa sk lw hg mv en dp ca rc re ho ae ta ow ts fs := by
  refine br_t rfl ?_
  unfold wX_effect_59
  exact fx_ud0 ⟨fn_n0, h⟩
theorem fx_e21 {post : Int32 → SX → Prop} {x y z : Int32} (h : post 0 (tl, fc, sz, tk, upd ln 0 0, an, fa, sk, lw, hg, mv, en, dp, ca, rc, re, ho, ae, ta, ow, ts, fs)) : wX_effect_21 post x y z tl fc sz tk ln an fa sk lw hg mv en dp ca rc re ho ae ta ow ts fs := br_t rfl (fx_e40 h)
theorem fn_bz (v : Int32) : vp_nar .boolean (lw_bz v) = lw_bz v := by
  rcases lw_bz_01 v with e | e <;> rw [e] <;> decide
theorem fy_e1 {post : Int32 → SY → Prop} {a w : Nat} {x : Int32} (ha : a < 4) (hw : w < 3) (hs : fc_sh yk yl 0)
    (hp : ∀ e yq, ((fc_L yl 0 ≠ 0 ∧ e = 1) ∨ (fc_L yl 0 = 0 ∧ x = 0 ∧ e = 0) ∨ (fc_L yl 0 = 0 ∧ x ≠ 0 ∧ e = 2)) → fc_cp yk yq (3 + 4 * a + 1 + w) (fc_L yl 0) →
      post 1 (0, te, fl, yq, upd (upd yl (3 + 4 * a + 1 + w) (yl 0)) 0 0, sz, th, fa, upd ef (a * 3 + w) e, go, gu, ye, yd, wa, al, yc, tr, fd, ys)) : wY_effect_44 post (nI a) (nI w) x kn te fl yk yl sz th fa ef go gu ye yd wa al yc tr fd ys := by
  have h12 := hs.2.1
  have h2 : 3 * nI a + nI w = nI (a * 3 + w) := by rw [← nI_add, Nat.mul_comm, ← pk_mul]; rfl
  have h3 : 3 + 4 * nI a + 1 + nI w = nI (3 + 4 * a + 1 + w) := by rw [← nI_add, ← nI_1, ← nI_add, ← pk_mul]; rfl
  have fin : ∀ e, ((fc_L yl 0 ≠ 0 ∧ e = 1) ∨ (fc_L yl 0 = 0 ∧ x = 0 ∧ e = 0) ∨ (fc_L yl 0 = 0 ∧ x ≠ 0 ∧ e = 2)) → wY_effect_87 post (nI a) (nI w) 1 e (3 * nI a + nI w) kn te fl yk yl sz th fa ef go gu ye yd wa al yc tr fd ys := by
    intro e he
    rw [h2]
    refine ⟨vp_in_nI (by omega) (by omega), ?_⟩
    rw [nI_clamp (by omega)]
    refine nm_e (br_f (by decide) ?_)
    unfold wY_effect_109
    rw [h3]
    exact fy_tk1 (by omega) (by omega) hs (fun yq hq => ⟨fn_n1, hp e yq he hq⟩)
  refine br_f (by decide) (pk_le (fc_L yl 0) 0 (fun z => br_c (fun q => fin 0 (Or.inr (Or.inl ⟨by omega, q, rfl⟩))) (fun q => fin 2 (Or.inr (Or.inr ⟨by omega, q, rfl⟩)))) (fun z => fin 1 (Or.inl ⟨by omega, rfl⟩)) hs.1)
theorem i_vc_effect {k : Nat} {u : SX} {v : SY} (I : i_Rel k u v) (hk : k + 4 ≤ 2048) (v1 : Int32) (v2 : Int32) (v3 : Int32) : wpX_effect (fun r u' => wpY_effect (fun r' v' => r' = r ∧ i_Rel (k + 4) u' v') v v1 v2 (lw_bz v3)) u v1 v2 (lw_bz v3) := by
  obtain ⟨tl, fc, sz, tk, ln, an, fa, sk, lw, hg, mv, en, dp, ca, rc, re, ho, ae, ta, ow, ts, fs⟩ := u
  obtain ⟨kn, te, fl, yk, yl, vs, th, yf, ef, go, gu, ye, yd, wa, al, yc, tr, fd, ys⟩ := v
  have I : i_Rel (k + 4) (tl, fc, sz, tk, ln, an, fa, sk, lw, hg, mv, en, dp, ca, rc, re, ho, ae, ta, ow, ts, fs) (kn, te, fl, yk, yl, vs, th, yf, ef, go, gu, ye, yd, wa, al, yc, tr, fd, ys) := I
  obtain ⟨rfl, rfl, S, Y, Fa, K, T, F⟩ := id I
  have sm0 := Y.1 0 (by omega)
  have hy := fc_sm_sh sm0 S.2.1
  unfold wpX_effect
  rcases pk_ix v1 (n := 4) (by omega) with h | h | ⟨a, ha, rfl⟩
  · refine fx_itn (Or.inl h) (br_t rfl (fx_e21 ?_))
    unfold wpY_effect
    exact fy_no (Or.inl h) (br_t rfl (fy_e0 ⟨rfl, fr_d I⟩))
  · refine fx_itn (Or.inr h) (br_t rfl (fx_e21 ?_))
    unfold wpY_effect
    exact fy_no (Or.inr h) (br_t rfl (fy_e0 ⟨rfl, fr_d I⟩))
  · obtain ⟨h1, h2, h3⟩ := S.2.2 (3 + a) (by omega) (by omega)
    have yno : (v2 < 0 ∨ 2 < v2 ∨ th a = 0) → wpY_effect (fun r' v' => r' = 0 ∧ i_Rel (k + 4) (tl, fc, sz, tk, upd ln 0 0, an, fa, sk, lw, hg, mv, en, dp, ca, rc, re, ho, ae, ta, ow, ts, fs) v') (kn, te, fl, yk, yl, sz, th, fa, ef, go, gu, ye, yd, wa, al, yc, tr, fd, ys) (nI a) v2 (lw_bz v3) := by
      intro hh
      unfold wpY_effect
      dsimp only
      rw [nI_clamp (by omega)]
      refine fy_ni (a := 0) (b := 3) (by omega) (by omega) (by omega) (br_f (by decide) (fy_in (fun p q => br_f (by decide) ⟨vp_in_nI ha (by omega), br_t ?_ (fy_e0 ⟨rfl, fr_d I⟩)⟩) (fun _ => br_t rfl (fy_e0 ⟨rfl, fr_d I⟩))))
      rcases hh with z | z | z
      · exact absurd z p
      · exact absurd z q
      · exact z
    refine fx_it ha h1 h2 (fun z => br_f (by decide) ?_) (fun z => br_t rfl (fx_e21 (yno (Or.inr (Or.inr ((fy_th Y ha).mpr z))))))
    have hth : ¬ th a = 0 := fun w => z ((fy_th Y ha).mp w)
    refine br_c (fun w => fx_e21 (yno (Or.inl w))) (fun w => br_c (fun w2 => fx_e21 (yno (Or.inr (Or.inl ((fn_32 _).mp w2))))) (fun w2 => ?_))
    obtain ⟨j, hj, rfl⟩ := nI_of (x := v2) w
    have hj3 : j < 3 := by
      have := fn_nl.mp w2
      rw [show (3 : Int32) = nI 3 from rfl, nI_ltI hj (by omega)] at this; exact this
    have yes : ∀ {post : Int32 → SY → Prop}, ((fc_L yl 0 = 0 ∨ fc_ex (fc_T yk 0) (fc_L yl 0)) → wY_effect_44 post (nI a) (nI j) (lw_bz v3) kn te fl yk yl sz th fa ef go gu ye yd wa al yc tr fd ys) → (¬ (fc_L yl 0 = 0 ∨ fc_ex (fc_T yk 0) (fc_L yl 0)) → wY_effect_48 post (nI a) (nI j) (lw_bz v3) kn te fl yk yl sz th fa ef go gu ye yd wa al yc tr fd ys) → wpY_effect post (kn, te, fl, yk, yl, sz, th, fa, ef, go, gu, ye, yd, wa, al, yc, tr, fd, ys) (nI a) (nI j) (lw_bz v3) := by
      intro post p1 p0
      unfold wpY_effect
      dsimp only
      rw [nI_clamp (n := a) (by omega)]
      exact fy_ni (a := 0) (b := 3) (by omega) (by omega) (by omega) (br_f (by decide) (fy_ni (a := 0) (b := 2) (by omega) (by omega) (by omega) (br_f (by decide) ⟨vp_in_nI ha (by omega), br_f hth (fy_oe hy p1 p0)⟩)))
    refine br_f (by decide) (fx_de S.2.1 (fun hf => br_f (by decide) (br_f (by decide) ?_)) (fun hf => br_t rfl (fx_e40 (yes (fun q => absurd ((fs_fit sm0).mp q) hf) (fun _ => fy_e0 ⟨rfl, fr_d I⟩)))))
    have g1 : nI a * 3 + nI j = nI (a * 3 + j) := by rw [← nI_add, ← pk_mul]; rfl
    have g2 : 7 + nI a * 3 + nI j = nI (7 + a * 3 + j) := by rw [← nI_add, ← nI_add, ← pk_mul]; rfl
    rw [g1, nI_clamp (by omega), fn_bz]
    refine ⟨vp_in_nI (by omega) (by omega), nm_e ?_⟩
    unfold wX_effect_59
    rw [g2]
    refine fx_ud1 (by omega) (by omega) S.2.1 (fun tq hc => ⟨fn_n1, ?_⟩)
    refine yes (fun _ => fy_e1 ha hj3 hy (fun e yq he hg => ⟨rfl, fr_ef ha hj3 I hth hf ?_ hc hg⟩)) (fun q => absurd ((fs_fit sm0).mpr hf) q)
    rw [fs_L sm0] at he; exact he
end FEF
