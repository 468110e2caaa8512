section FIV
variable {tl fc : Int32} {sz tk ln an fa sk lw hg mv en dp ca rc : Nat → Int32} {re : Nat → Int64} {ho ae ta ow ts fs : Nat → Int32} {kn te fl : Int32} {yk yl th ef : Nat → Int32} {go : Nat → Int64} {gu ye yd : Nat → Int32} {wa al yc : Nat → Int64} {tr fd ys : Nat → Int32}
theorem fi_bd {N : Nat} {I0 : Nat → Prop} {st : Nat → Nat → Prop} {dp : Nat → Int32} {br : Nat → Bool} {Br : Nat → Prop} (hN : N ≤ 125) (hD : fg_D N I0 st dp) (hb : ∀ s, br s = true ↔ Br s) (h : ¬ fi_b dp br N < 0) : ∃ d, d < 125 ∧ fi_b dp br N = nI d ∧ ∃ s, fg_F N I0 st d s ∧ Br s := by
  rcases fi_bx (dp := dp) (br := br) N with e | ⟨i, hi, a, b, e⟩
  · rw [e] at h; exact absurd fn_m1lt h
  · rcases hD i hi with ⟨d, hd, ed, f⟩ | ⟨ed, _⟩
    · exact ⟨d, by omega, e.trans ed, i, f, (hb i).mp b⟩
    · rw [ed] at a; exact absurd fn_m1lt a
theorem fy_iv {post : Int32 → SY → Prop} {b : Int32} (hz : fc_Z sz) (Y : fy_S tk ln an yk yl th ef) (G : fy_G sz tk ln an go) (hD : fc_Dp sz tk ln an yd) (ok : fc_ok yk yl 0) (hb : fi_b yd (fun s => decide (fc_w sz yk yl 0 s = 0)) (fc_N sz) = b)
    (h0 : b < 0 → ∀ ys', post b (kn, te, fl, yk, yl, sz, th, fa, ef, go, gu, ye, yd, wa, al, yc, tr, fd, ys'))
    (h1 : ∀ d, d < 125 → b = nI d → ∀ ys' al' tr' T, fi_T (fc_N sz) (fc_i sz tk ln) (fc_st sz tk ln an) (fun s => fc_w sz yk yl 0 s = 0) d d tr' T → post b (kn, nI d, fl, yk, yl, sz, th, fa, ef, go, gu, ye, yd, wa, al', yc, tr', fd, ys')) : ∃ n, wY_invariant_24 post (nI (fc_N sz)) n (-1) 0 kn te fl yk yl sz th fa ef go gu ye yd wa al yc tr fd ys := by
  have hN := fc_N1 hz
  refine pk_loop (fun n i (p : Int32 × (Nat → Int32)) => wY_invariant_24 post (nI (fc_N sz)) n p.1 (nI i) kn te fl yk yl sz th fa ef go gu ye yd wa al yc tr fd p.2) (fun i p => p.1 = fi_b yd (fun s => decide (fc_w sz yk yl 0 s = 0)) i) (fc_N sz) 0 (-1, ys) (by omega) rfl (fun n p I => ?_) (fun n i p hi I k => ?_)
  · obtain ⟨x, ys⟩ := p
    have I : x = fi_b yd (fun s => decide (fc_w sz yk yl 0 s = 0)) (fc_N sz) := I
    rw [hb] at I
    subst I
    refine pk_le (fc_N sz) (fc_N sz) (fun _ => br_c (fun z => h0 z ys) (fun z => ?_)) (fun z => absurd z (by omega))
    have z2 : ¬ x < 0 := z
    rw [← hb] at z2
    obtain ⟨d, hd, e, hx⟩ := fi_bd (Br := fun s => fc_w sz yk yl 0 s = 0) (by omega) hD (fun s => decide_eq_true_iff) z2
    rw [hb] at e
    have h1 := h1 d hd e
    show wpY_row (fun u => post x u) (kn, te, fl, yk, yl, sz, th, fa, ef, go, gu, ye, yd, wa, al, yc, tr, fd, ys) x (nI (fc_N sz))
    rw [e] at h1 ⊢
    exact fy_rw hz Y G hD ok hd (fun s => Iff.rfl) hx (fun ys' al' tr' T hT => h1 ys' al' tr' T hT)
  · obtain ⟨x, ys⟩ := p
    have I : x = fi_b yd (fun s => decide (fc_w sz yk yl 0 s = 0)) i := I
    have k : ∀ ys' y, y = (if yd i < 0 then x else if decide (fc_w sz yk yl 0 i = 0) = true then (if x < 0 then yd i else if x ≤ yd i then x else yd i) else x) → wY_invariant_24 post (nI (fc_N sz)) n y (nI (i + 1)) kn te fl yk yl sz th fa ef go gu ye yd wa al yc tr fd ys' := by
      intro ys' y ey
      refine k (y, ys') ?_
      show y = _
      rw [ey, I]; rfl
    refine pk_le (fc_N sz) i (fun z => absurd z (by omega)) (fun _ => ?_)
    rw [nI_clamp (by omega)]
    refine ⟨vp_in_nI (by omega) (by omega), br_c (fun d => nm_r (nI_1 i) (k ys _ (by rw [if_pos d]))) (fun d => ?_)⟩
    refine fy_wk (j := 0) hz (by omega) hi ok (fun ys' => br_c (fun e => br_c (fun c => ⟨vp_in_nI (by omega) (by omega), nm_e (nm_r (nI_1 i) (k ys' _ ?_))⟩) (fun c => ⟨vp_in_nI (by omega) (by omega), br_c (fun f => nm_r (nI_1 i) (k ys' _ ?_)) (fun f => ⟨vp_in_nI (by omega) (by omega), nm_e (nm_r (nI_1 i) (k ys' _ ?_))⟩)⟩)) (fun e => nm_r (nI_1 i) (k ys' _ ?_)))
    · rw [if_neg d, decide_eq_true e, if_pos rfl, if_pos c]
    · rw [if_neg d, decide_eq_true e, if_pos rfl, if_neg c, if_pos f]
    · rw [if_neg d, decide_eq_true e, if_pos rfl, if_neg c, if_neg f]
    · rw [if_neg d, decide_eq_false e]; rfl
theorem i_vc_invariant {k : Nat} {u : SX} {v : SY} (I : i_Rel k u v) (hk : k + 4 ≤ 2048) : wpX_invariant (fun r u' => wpY_invariant (fun r' v' => r' = r ∧ i_Rel (k + 4) u' v') v) u := by
  obtain ⟨tl, fc, sz, tk, ln, an, fa, sk, lw, hg, mv, en, dp, ca, rc, re, ho, ae, ta, ow, ts, fs⟩ := u
  obtain ⟨kn, te, fl, yk, yl, vs, th, yf, ef, go, gu, ye, yd, wa, al, yc, tr, fd, ys⟩ := v
  have I : i_Rel (k + 4) (tl, fc, sz, tk, ln, an, fa, sk, lw, hg, mv, en, dp, ca, rc, re, ho, ae, ta, ow, ts, fs) (kn, te, fl, yk, yl, vs, th, yf, ef, go, gu, ye, yd, wa, al, yc, tr, fd, ys) := I
  obtain ⟨rfl, rfl, S, Y, Fa, K, T, F⟩ := id I
  have hz := S.1
  have hN := fc_N1 hz
  have sm0 := Y.1 0 (by omega)
  have hy := fc_sm_sh sm0 S.2.1
  unfold wpX_invariant
  refine fx_di S.2.1 (fun hf => br_f (by decide) ?_) (fun hf => br_t rfl ?_)
  · have ok : fc_ok tk ln 0 := ⟨S.2.1, hf⟩
    have oky : fc_ok yk yl 0 := fc_sm_ok sm0 ok
    have ew : (fun s => decide (fc_w sz yk yl 0 s = 0)) = (fun s => decide (fc_w sz tk ln 0 s = 0)) := by
      funext s; rw [fc_sm_w sm0]
    have ew2 : (fun s => fc_w sz yk yl 0 s = 0) = (fun s => fc_w sz tk ln 0 s = 0) := by
      funext s; rw [fc_sm_w sm0]
    refine fx_ex S (fun sk' lw' hg' mv' en' dp' XX => ?_)
    have hmv : ∀ s t, s < fc_N sz → t < fc_N sz → s ≠ t → (mv' (s * 125 + t) = 0 ↔ ¬ fc_st sz tk ln an s t) := fun s t hs ht e => fx_mz (XX.1 s hs).1 ht e
    have hD : fg_D (fc_N sz) (fc_i sz tk ln) (fc_st sz tk ln an) dp' := XX.2
    refine fx_lb hz ok (fun sk2 => ?_)
    have hbY : ∀ yd', fc_Dp sz tk ln an yd' → fi_b yd' (fun s => decide (fc_w sz yk yl 0 s = 0)) (fc_N sz) = fi_b dp' (fun s => decide (fc_w sz tk ln 0 s = 0)) (fc_N sz) := by
      intro yd' h
      rw [ew]
      exact fi_bc _ (fun i hi => fg_Du h hD hi)
    have hbX := fi_bd (br := fun s => decide (fc_w sz tk ln 0 s = 0)) (Br := fun s => fc_w sz tk ln 0 s = 0) (by omega) hD (fun s => decide_eq_true_iff)
    generalize fi_b dp' (fun s => decide (fc_w sz tk ln 0 s = 0)) (fc_N sz) = b at *
    refine br_c (fun z => ?_) (fun z => ?_)
    · unfold wpY_invariant
      refine fy_ie hy (fun _ => br_f (by decide) (fy_kn S Y K (fun go' gu' ye' yd' ys' KK => fy_ns hz ?_))) (fun q => absurd ((fs_exq sm0).mpr hf) q)
      refine fy_iv hz Y KK.1 KK.2.2 oky (hbY yd' KK.2.2) (fun _ ys2 => ⟨rfl, rfl, rfl, S, Y, Fa, Or.inr ⟨rfl, KK⟩, T, F⟩) (fun d hd e => ?_)
      rw [e] at z; exact absurd z (nI_pos (by omega))
    · obtain ⟨d, hd, rfl, hx⟩ := hbX z
      refine fx_mw hz ok hD hmv hd (fun s => Iff.rfl) (fun sk3 ow' ho => ?_)
      refine fx_kt hz hD hmv hd ho hx (fun ts' TX hT => ?_)
      unfold wpY_invariant
      refine fy_ie hy (fun _ => br_f (by decide) (fy_kn S Y K (fun go' gu' ye' yd' ys' KK => fy_ns hz ?_))) (fun q => absurd ((fs_exq sm0).mpr hf) q)
      refine fy_iv hz Y KK.1 KK.2.2 oky (hbY yd' KK.2.2) (fun w => absurd w z) (fun d2 hd2 e ys2 al2 tr2 TY hTY => ?_)
      rw [nI_eq (by omega) (by omega)] at e
      subst e
      rw [ew2] at hTY
      refine ⟨rfl, rfl, rfl, S, Y, Fa, Or.inr ⟨rfl, KK⟩, ⟨d + 1, by omega, rfl, (pk_m1 d).symm, fun j hj => ?_⟩, F⟩
      rw [(hT.2 j (by omega)).2, (hTY.2 j (by omega)).2, fg_tu hT.1 hTY.1 j (by omega)]
  · unfold wpY_invariant
    exact fy_ie hy (fun q => absurd ((fs_exq sm0).mp q) hf) (fun _ => br_t rfl ⟨rfl, I⟩)
end FIV
