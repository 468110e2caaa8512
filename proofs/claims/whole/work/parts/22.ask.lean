section FAK
variable {tl fc : Int32} {sz tk ln an fa sk lw hg mv en dp ca rc : Nat → Int32} {re : Nat → Int64} {ho ae ta ow ts fs : Nat → Int32} {kn te fl : Int32} {yk yl th ef : Nat → Int32} {go : Nat → Int64} {gu ye yd : Nat → Int32} {wa al yc : Nat → Int64} {tr fd ys : Nat → Int32}
theorem fx_st {post : Int32 → Prop} (hz : fc_Z sz) {s : Nat} (hs : s < fc_N sz) (h : post 1) : wpX_isState post (tl, fc, sz, tk, ln, an, fa, sk, lw, hg, mv, en, dp, ca, rc, re, ho, ae, ta, ow, ts, fs) (nI s) := by
  have hN := fc_N1 hz
  refine br_f (nI_pos (by omega)) (fx_ns hz ?_)
  exact pk_le (fc_N sz) s (fun z => absurd z (by omega)) (fun _ => h)
theorem fx_sn {post : Int32 → Prop} (hz : fc_Z sz) {x : Int32} (hx : x < 0 ∨ nI (fc_N sz) ≤ x) (h : post 0) : wpX_isState post (tl, fc, sz, tk, ln, an, fa, sk, lw, hg, mv, en, dp, ca, rc, re, ho, ae, ta, ow, ts, fs) x := by
  by_cases z : x < 0
  · exact br_t z h
  · refine br_f z (fx_ns hz ?_)
    exact br_t (hx.resolve_left z) h
theorem fn_Nm {n : Nat} (h : 1 ≤ n) : nI n - 1 = nI (n - 1) := pk_sub (b := 1) h
theorem fy_sn {post : Int32 → Prop} {n : Nat} (h1 : 1 ≤ n) (h2 : n < 2 ^ 31) {x : Int32} (hx : x < 0 ∨ nI n ≤ x) (h : post 0) : wpY_in post x 0 (nI n - 1) := by
  rw [fn_Nm h1]
  refine fy_in (fun a b => absurd hx ?_) (fun _ => h)
  rintro (z | z)
  · exact a z
  · obtain ⟨j, hj, rfl⟩ := nI_of a
    rw [nI_leI h2 hj] at z
    rw [nI_ltI (by omega) hj] at b
    omega
theorem fy_st {post : Int32 → Prop} {n s : Nat} (h2 : n < 2 ^ 31) (hs : s < n) (h : post 1) : wpY_in post (nI s) 0 (nI n - 1) := by
  rw [fn_Nm (by omega)]
  exact fy_ni (a := 0) (by omega) (by omega) (by omega) h
theorem i_vc_leads {k : Nat} {u : SX} {v : SY} (I : i_Rel k u v) (hk : k + 4 ≤ 2048) (v1 : Int32) (v2 : Int32) (v3 : Int32) : wpX_leads (fun r u' => wpY_leads (fun r' v' => r' = r ∧ i_Rel (k + 4) u' v') v v1 v2 v3) u v1 v2 v3 := by
  obtain ⟨tl, fc, sz, tk, ln, an, fa, sk, lw, hg, mv, en, dp, ca, rc, re, ho, ae, ta, ow, ts, fs⟩ := u
  obtain ⟨kn, te, fl, yk, yl, vs, th, yf, ef, go, gu, ye, yd, wa, al, yc, tr, fd, ys⟩ := v
  have I : i_Rel (k + 4) (tl, fc, sz, tk, ln, an, fa, sk, lw, hg, mv, en, dp, ca, rc, re, ho, ae, ta, ow, ts, fs) (kn, te, fl, yk, yl, vs, th, yf, ef, go, gu, ye, yd, wa, al, yc, tr, fd, ys) := I
  obtain ⟨rfl, rfl, S, Y, Fa, K, T, F⟩ := id I
  have hz := S.1
  have hN := fc_N1 hz
  unfold wpX_leads
  rcases pk_ix v1 (n := 4) (by omega) with h | h | ⟨a, ha, rfl⟩
  · refine fx_itn (Or.inl h) (br_t rfl ?_)
    unfold wpY_leads
    exact fy_no (Or.inl h) (br_t rfl ⟨rfl, I⟩)
  · refine fx_itn (Or.inr h) (br_t rfl ?_)
    unfold wpY_leads
    exact fy_no (Or.inr h) (br_t rfl ⟨rfl, I⟩)
  · obtain ⟨h1, h2, h3⟩ := S.2.2 (3 + a) (by omega) (by omega)
    refine fx_it ha h1 h2 (fun z => br_f (by decide) ?_) (fun z => br_t rfl ?_)
    · have hth : ¬ th a = 0 := fun w => z ((fy_th Y ha).mp w)
      have ya : ∀ {post : Int32 → SY → Prop}, wpY_in (fun r_25 => (r_25 = 0 → post 0 (kn, te, fl, yk, yl, sz, th, fa, ef, go, gu, ye, yd, wa, al, yc, tr, fd, ys)) ∧ (¬ r_25 = 0 → wpY_states (fun r_27 => wpY_in (fun r_47 => (r_47 = 0 → post 0 (kn, te, fl, yk, yl, sz, th, fa, ef, go, gu, ye, yd, wa, al, yc, tr, fd, ys)) ∧ (¬ r_47 = 0 → wpY_know (fun u => wpY_goesTo (fun r_69 => narrow .boolean (.int r_69) = .int r_69 ∧ post r_69 u) u (nI a) v2 v3) (kn, te, fl, yk, yl, sz, th, fa, ef, go, gu, ye, yd, wa, al, yc, tr, fd, ys))) v3 0 (r_27 - 1)) (kn, te, fl, yk, yl, sz, th, fa, ef, go, gu, ye, yd, wa, al, yc, tr, fd, ys))) v2 0 (nI (fc_N sz) - 1) → wpY_leads post (kn, te, fl, yk, yl, sz, th, fa, ef, go, gu, ye, yd, wa, al, yc, tr, fd, ys) (nI a) v2 v3 := by
        intro post hh
        unfold wpY_leads
        dsimp only
        rw [nI_clamp (n := a) (by omega)]
        exact fy_ni (a := 0) (b := 3) (by omega) (by omega) (by omega) (br_f (by decide) ⟨vp_in_nI ha (by omega), br_f hth (fy_ns hz hh)⟩)
      rcases pk_ix v2 (n := fc_N sz) (by omega) with w | w | ⟨s, hs, rfl⟩
      · exact fx_sn hz (Or.inl w) (br_t rfl (ya (fy_sn (by omega) (by omega) (Or.inl w) (br_t rfl ⟨rfl, I⟩))))
      · exact fx_sn hz (Or.inr w) (br_t rfl (ya (fy_sn (by omega) (by omega) (Or.inr w) (br_t rfl ⟨rfl, I⟩))))
      · refine fx_st hz hs (br_f (by decide) ?_)
        rcases pk_ix v3 (n := fc_N sz) (by omega) with w | w | ⟨t, ht, rfl⟩
        · exact fx_sn hz (Or.inl w) (br_t rfl (ya (fy_st (by omega) hs (br_f (by decide) (fy_ns hz (fy_sn (by omega) (by omega) (Or.inl w) (br_t rfl ⟨rfl, I⟩)))))))
        · exact fx_sn hz (Or.inr w) (br_t rfl (ya (fy_st (by omega) hs (br_f (by decide) (fy_ns hz (fy_sn (by omega) (by omega) (Or.inr w) (br_t rfl ⟨rfl, I⟩)))))))
        · refine fx_st hz ht (br_f (by decide) (fx_ex S (fun sk' lw' hg' mv' en' dp' XX => ?_)))
          have hx : nI s * 125 + nI t = nI (s * 125 + t) := by rw [← nI_add, ← pk_mul]; rfl
          rw [hx, nI_clamp (by omega)]
          have hb := fb_t1 ((XX.1 s hs).1 t ht) ha
          refine ⟨vp_in_nI (by omega) (by omega), br_c (fun q => ya (fy_st (by omega) hs (br_f (by decide) (fy_ns hz (fy_st (by omega) ht (br_f (by decide) (fy_kn S Y K (fun go' gu' ye' yd' ys' KK => ?_)))))))) (fun q => ya (fy_st (by omega) hs (br_f (by decide) (fy_ns hz (fy_st (by omega) ht (br_f (by decide) (fy_kn S Y K (fun go' gu' ye' yd' ys' KK => ?_))))))))⟩
          · exact fy_gt hz Y KK.1 ha hs ht (fun _ => ⟨fn_n1, rfl, rfl, rfl, S, Y, Fa, Or.inr ⟨rfl, KK⟩, T, F⟩) (fun m => absurd ((hb.mp q).symm.trans m) (by decide))
          · exact fy_gt hz Y KK.1 ha hs ht (fun m => absurd (hb.mpr m) q) (fun _ => ⟨fn_n0, rfl, rfl, rfl, S, Y, Fa, Or.inr ⟨rfl, KK⟩, T, F⟩)
    · unfold wpY_leads
      dsimp only
      rw [nI_clamp (n := a) (by omega)]
      exact fy_ni (a := 0) (b := 3) (by omega) (by omega) (by omega) (br_f (by decide) ⟨vp_in_nI ha (by omega), br_t ((fy_th Y ha).mpr z) ⟨rfl, I⟩⟩)
theorem i_vc_state {k : Nat} {u : SX} {v : SY} (I : i_Rel k u v) (hk : k + 4 ≤ 2048) (v1 : Int32) (v2 : Int32) : wpX_state (fun r u' => wpY_state (fun r' v' => r' = r ∧ i_Rel (k + 4) u' v') v v1 v2) u v1 v2 := by
  obtain ⟨tl, fc, sz, tk, ln, an, fa, sk, lw, hg, mv, en, dp, ca, rc, re, ho, ae, ta, ow, ts, fs⟩ := u
  obtain ⟨kn, te, fl, yk, yl, vs, th, yf, ef, go, gu, ye, yd, wa, al, yc, tr, fd, ys⟩ := v
  have I : i_Rel (k + 4) (tl, fc, sz, tk, ln, an, fa, sk, lw, hg, mv, en, dp, ca, rc, re, ho, ae, ta, ow, ts, fs) (kn, te, fl, yk, yl, vs, th, yf, ef, go, gu, ye, yd, wa, al, yc, tr, fd, ys) := I
  obtain ⟨rfl, rfl, S, Y, Fa, K, T, F⟩ := id I
  have hz := S.1
  have hN := fc_N1 hz
  unfold wpX_state
  rcases pk_ix v1 (n := fc_N sz) (by omega) with w | w | ⟨s, hs, rfl⟩
  · refine fx_sn hz (Or.inl w) (br_t rfl ?_)
    unfold wpY_state
    exact fy_ns hz (fy_sn (by omega) (by omega) (Or.inl w) (br_t rfl ⟨rfl, I⟩))
  · refine fx_sn hz (Or.inr w) (br_t rfl ?_)
    unfold wpY_state
    exact fy_ns hz (fy_sn (by omega) (by omega) (Or.inr w) (br_t rfl ⟨rfl, I⟩))
  · refine fx_st hz hs (br_f (by decide) ?_)
    have yn : (v2 < 0 ∨ 5 < v2) → wpY_state (fun r' v' => r' = -1 ∧ i_Rel (k + 4) (tl, fc, sz, tk, ln, an, fa, sk, lw, hg, mv, en, dp, ca, rc, re, ho, ae, ta, ow, ts, fs) v') (kn, te, fl, yk, yl, sz, th, fa, ef, go, gu, ye, yd, wa, al, yc, tr, fd, ys) (nI s) v2 := by
      intro hh
      unfold wpY_state
      refine fy_ns hz (fy_st (by omega) hs (br_f (by decide) (fy_in (fun a b => absurd hh ?_) (fun _ => br_t rfl ⟨rfl, I⟩))))
      rintro (q | q)
      · exact a q
      · exact b q
    refine br_c (fun z => yn (Or.inl z)) (fun z => br_c (fun z2 => yn (Or.inr z2)) (fun z2 => ?_))
    obtain ⟨w, hw, rfl⟩ := nI_of (x := v2) z
    have w5 : w ≤ 5 := by
      rw [show (5 : Int32) = nI 5 from rfl, nI_ltI (by omega) hw] at z2; omega
    have ya : ∀ {post : Int32 → SY → Prop}, (∀ go' gu' ye' yd' ys', fy_K sz tk ln an go' gu' ye' yd' → (w = 0 → post (yd' s) (1, te, fl, yk, yl, sz, th, fa, ef, go', gu', ye', yd', wa, al, yc, tr, fd, ys')) ∧ (w = 1 → post (ye' s) (1, te, fl, yk, yl, sz, th, fa, ef, go', gu', ye', yd', wa, al, yc, tr, fd, ys')) ∧ (w = 2 → post (gu' s) (1, te, fl, yk, yl, sz, th, fa, ef, go', gu', ye', yd', wa, al, yc, tr, fd, ys')) ∧ (3 ≤ w → post (nI (fc_v sz s (w - 3))) (1, te, fl, yk, yl, sz, th, fa, ef, go', gu', ye', yd', wa, al, yc, tr, fd, ys'))) → wpY_state post (kn, te, fl, yk, yl, sz, th, fa, ef, go, gu, ye, yd, wa, al, yc, tr, fd, ys) (nI s) (nI w) := by
      intro post hh
      unfold wpY_state
      refine fy_ns hz (fy_st (by omega) hs (br_f (by decide) (fy_ni (a := 0) (b := 5) (by omega) (by omega) (by omega) (br_f (by decide) (fy_kn S Y K (fun go' gu' ye' yd' ys' KK => ?_))))))
      obtain ⟨p0, p1, p2, p3⟩ := hh go' gu' ye' yd' ys' KK
      rw [nI_clamp (n := s) (by omega)]
      refine pk_eq w 0 (fun e => ⟨vp_in_nI (by omega) (by omega), p0 e⟩) (fun e0 => pk_eq w 1 (fun e => ⟨vp_in_nI (by omega) (by omega), p1 e⟩) (fun e1 => pk_eq w 2 (fun e => ⟨vp_in_nI (by omega) (by omega), p2 e⟩) (fun e2 => ?_)))
      rw [show nI w - 3 = nI (w - 3) from pk_sub (b := 3) (by omega)]
      exact fy_vo hz hs (by omega) (p3 (by omega))
    have val : 3 ≤ w → wX_state_76 (fun r u' => wpY_state (fun r' v' => r' = r ∧ i_Rel (k + 4) u' v') (kn, te, fl, yk, yl, sz, th, fa, ef, go, gu, ye, yd, wa, al, yc, tr, fd, ys) (nI s) (nI w)) (nI s) (nI w) tl fc sz tk ln an fa sk lw hg mv en dp ca rc re ho ae ta ow ts fs := by
      intro w3
      unfold wX_state_76
      rw [show nI w - 3 = nI (w - 3) from pk_sub (b := 3) (by omega)]
      refine fx_vi hz (by omega) (by omega) (ya (fun go' gu' ye' yd' ys' KK => ⟨fun e => absurd e (by omega), fun e => absurd e (by omega), fun e => absurd e (by omega), fun _ => ?_⟩))
      exact ⟨rfl, rfl, rfl, S, Y, Fa, Or.inr ⟨rfl, KK⟩, T, F⟩
    refine pk_eq w 0 (fun e => ?_) (fun e0 => pk_eq w 1 (fun e => ?_) (fun e1 => pk_eq w 2 (fun e => ?_) (fun e2 => pk_eq w 3 (fun e => val (by omega)) (fun e3 => pk_eq w 4 (fun e => val (by omega)) (fun e4 => pk_eq w 5 (fun e => val (by omega)) (fun e5 => absurd w5 (by omega)))))))
    · refine fx_ex S (fun sk' lw' hg' mv' en' dp' XX => ?_)
      rw [nI_clamp (n := s) (by omega)]
      refine ⟨vp_in_nI (by omega) (by omega), ya (fun go' gu' ye' yd' ys' KK => ⟨fun _ => ?_, fun e => absurd e (by omega), fun e => absurd e (by omega), fun e => absurd e (by omega)⟩)⟩
      exact ⟨fg_Du KK.2.2 XX.2 hs, rfl, rfl, S, Y, Fa, Or.inr ⟨rfl, KK⟩, T, F⟩
    · refine fx_ex S (fun sk' lw' hg' mv' en' dp' XX => ?_)
      rw [nI_clamp (n := s) (by omega)]
      refine ⟨vp_in_nI (by omega) (by omega), ya (fun go' gu' ye' yd' ys' KK => ⟨fun e => absurd e (by omega), fun _ => ?_, fun e => absurd e (by omega), fun e => absurd e (by omega)⟩)⟩
      exact ⟨fb_ext (KK.2.1 s hs).2 (XX.1 s hs).2, rfl, rfl, S, Y, Fa, Or.inr ⟨rfl, KK⟩, T, F⟩
    · refine fx_tg S (by omega) (fun sk' r hr => ya (fun go' gu' ye' yd' ys' KK => ⟨fun e => absurd e (by omega), fun e => absurd e (by omega), fun _ => ?_, fun e => absurd e (by omega)⟩))
      exact ⟨fb_ext (KK.2.1 s hs).1 hr, rfl, rfl, S, Y, Fa, Or.inr ⟨rfl, KK⟩, T, F⟩
end FAK
