section FS2
variable {tl fc : Int32} {sz tk ln an fa sk lw hg mv en dp ca rc : Nat → Int32} {re : Nat → Int64} {ho ae ta ow ts fs : Nat → Int32} {kn te fl : Int32} {yk yl th ef : Nat → Int32} {go : Nat → Int64} {gu ye yd : Nat → Int32} {wa al yc : Nat → Int64} {tr fd ys : Nat → Int32}
theorem fy_ni {post : Int32 → Prop} {j a b : Nat} (ha : a ≤ j) (hb : j ≤ b) (h31 : b < 2 ^ 31) (h : post 1) : wpY_in post (nI j) (nI a) (nI b) := by
  refine fy_in (fun _ _ => h) (fun z => absurd z ?_)
  rintro (z | z)
  · rw [nI_ltI (by omega) (by omega)] at z; omega
  · rw [nI_ltI (by omega) (by omega)] at z; omega
theorem fy_no {post : Int32 → Prop} {x : Int32} (hx : x < 0 ∨ nI 4 ≤ x) (h : post 0) : wpY_in post x 0 3 := by
  refine fy_in (fun a b => absurd hx ?_) (fun _ => h)
  rintro (z | z)
  · exact a z
  · exact b ((fn_43 x).mp z)
theorem i_vc_fair {k : Nat} {u : SX} {v : SY} (I : i_Rel k u v) (hk : k + 4 ≤ 2048) (v1 : Int32) (v2 : Int32) : wpX_fair (fun r u' => wpY_fair (fun r' v' => r' = r ∧ i_Rel (k + 4) u' v') v v1 v2) u v1 v2 := by
  obtain ⟨tl, fc, sz, tk, ln, an, fa, sk, lw, hg, mv, en, dp, ca, rc, re, ho, ae, ta, ow, ts, fs⟩ := u
  obtain ⟨kn, te, fl, yk, yl, vs, th, yf, ef, go, gu, ye, yd, wa, al, yc, tr, fd, ys⟩ := v
  obtain ⟨rfl, rfl, S, Y, Fa, K, T, F⟩ := I
  have R : i_Rel (k + 4) (tl, fc, sz, tk, ln, an, fa, sk, lw, hg, mv, en, dp, ca, rc, re, ho, ae, ta, ow, ts, fs) (kn, te, fl, yk, yl, sz, th, fa, ef, go, gu, ye, yd, wa, al, yc, tr, fd, ys) := ⟨rfl, rfl, S, Y, Fa, K, T, F⟩
  unfold wpX_fair wpY_fair
  dsimp only
  rcases pk_ix v1 (n := 4) (by omega) with h | h | ⟨j, hj, rfl⟩
  · exact fx_itn (Or.inl h) (br_t rfl (fy_no (Or.inl h) (br_t rfl ⟨rfl, R⟩)))
  · exact fx_itn (Or.inr h) (br_t rfl (fy_no (Or.inr h) (br_t rfl ⟨rfl, R⟩)))
  · obtain ⟨h1, h2, h3⟩ := S.2.2 (3 + j) (by omega) (by omega)
    rw [nI_clamp (by omega)]
    refine fx_it hj h1 h2 (fun z => br_f (by decide) ?_) (fun z => br_t rfl (fy_ni (a := 0) (b := 3) (by omega) (by omega) (by omega) (br_f (by decide) ⟨vp_in_nI hj (by omega), br_t ((fy_th Y hj).mpr z) ⟨rfl, R⟩⟩)))
    have hth : ¬ th j = 0 := fun w => z ((fy_th Y hj).mp w)
    have y0 : ∀ {post : Int32 → SY → Prop}, (v2 < 0 ∨ 2 < v2) → post 0 (kn, te, fl, yk, yl, sz, th, fa, ef, go, gu, ye, yd, wa, al, yc, tr, fd, ys) → wpY_in (fun r_1 => (r_1 = 0 → post 0 (kn, te, fl, yk, yl, sz, th, fa, ef, go, gu, ye, yd, wa, al, yc, tr, fd, ys)) ∧ (¬ r_1 = 0 → vp_in (nI j) 4 ∧ ((th j = 0 → post 0 (kn, te, fl, yk, yl, sz, th, fa, ef, go, gu, ye, yd, wa, al, yc, tr, fd, ys)) ∧ (¬ th j = 0 → wpY_in (fun r_5 => (r_5 = 0 → post 0 (kn, te, fl, yk, yl, sz, th, fa, ef, go, gu, ye, yd, wa, al, yc, tr, fd, ys)) ∧ (¬ r_5 = 0 → vp_in (nI j) 4 ∧ (∀ a_fairness_8 : Nat → Int32, a_fairness_8 = upd fa j v2 → post 1 (kn, te, fl, yk, yl, sz, th, a_fairness_8, ef, go, gu, ye, yd, wa, al, yc, tr, fd, ys)))) v2 0 2)))) (nI j) 0 3 := by
      intro post hv hp
      refine fy_ni (a := 0) (b := 3) (by omega) (by omega) (by omega) (br_f (by decide) ⟨vp_in_nI hj (by omega), br_f hth (fy_in (fun a b => absurd hv ?_) (fun _ => br_t rfl hp))⟩)
      rintro (w | w)
      · exact a w
      · exact b w
    refine br_c (fun w => y0 (post := fun r' v' => r' = 0 ∧ i_Rel (k + 4) (tl, fc, sz, tk, ln, an, fa, sk, lw, hg, mv, en, dp, ca, rc, re, ho, ae, ta, ow, ts, fs) v') (Or.inl w) ⟨rfl, R⟩) (fun w => br_c (fun w2 => ⟨vp_in_nI hj (by omega), nm_e ?_⟩) (fun w2 => y0 (post := fun r' v' => r' = 0 ∧ i_Rel (k + 4) (tl, fc, sz, tk, ln, an, fa, sk, lw, hg, mv, en, dp, ca, rc, re, ho, ae, ta, ow, ts, fs) v') (Or.inr (fn_nl.mp w2)) ⟨rfl, R⟩))
    refine fy_ni (a := 0) (b := 3) (by omega) (by omega) (by omega) (br_f (by decide) ⟨vp_in_nI hj (by omega), br_f hth (fy_in (fun a b => br_f (by decide) ⟨vp_in_nI hj (by omega), nm_e ?_⟩) (fun q => absurd q ?_))⟩)
    · refine ⟨rfl, rfl, rfl, S, Y, fun a ha => ?_, K, T, F⟩
      by_cases e : a = j
      · subst e
        rw [pk_us]
        obtain ⟨m, hm, rfl⟩ := nI_of (x := v2) w
        rw [show (2 : Int32) = nI 2 from rfl, nI_leI hm (by omega)] at w2
        rcases (show m = 0 ∨ m = 1 ∨ m = 2 by omega) with rfl | rfl | rfl
        · exact Or.inl rfl
        · exact Or.inr (Or.inl rfl)
        · exact Or.inr (Or.inr rfl)
      · rw [pk_un e]; exact Fa a ha
    · rintro (q | q)
      · exact w q
      · exact fn_nl.mpr q w2
theorem i_vc_drop {k : Nat} {u : SX} {v : SY} (I : i_Rel k u v) (hk : k + 4 ≤ 2048) (v1 : Int32) : wpX_drop (fun r u' => wpY_drop (fun r' v' => r' = r ∧ i_Rel (k + 4) u' v') v v1) u v1 := by
  obtain ⟨tl, fc, sz, tk, ln, an, fa, sk, lw, hg, mv, en, dp, ca, rc, re, ho, ae, ta, ow, ts, fs⟩ := u
  obtain ⟨kn, te, fl, yk, yl, vs, th, yf, ef, go, gu, ye, yd, wa, al, yc, tr, fd, ys⟩ := v
  obtain ⟨rfl, rfl, S, Y, Fa, K, T, F⟩ := I
  have R : i_Rel (k + 4) (tl, fc, sz, tk, ln, an, fa, sk, lw, hg, mv, en, dp, ca, rc, re, ho, ae, ta, ow, ts, fs) (kn, te, fl, yk, yl, sz, th, fa, ef, go, gu, ye, yd, wa, al, yc, tr, fd, ys) := ⟨rfl, rfl, S, Y, Fa, K, T, F⟩
  unfold wpX_drop wpY_drop
  dsimp only
  rcases pk_ix v1 (n := 4) (by omega) with h | h | ⟨j, hj, rfl⟩
  · exact fx_itn (Or.inl h) (br_t rfl (fy_no (Or.inl h) (br_t rfl ⟨rfl, R⟩)))
  · exact fx_itn (Or.inr h) (br_t rfl (fy_no (Or.inr h) (br_t rfl ⟨rfl, R⟩)))
  · obtain ⟨h1, h2, h3⟩ := S.2.2 (3 + j) (by omega) (by omega)
    have hx : 3 + nI j = nI (3 + j) := nI_add 3 j
    rw [hx, nI_clamp (by omega), nI_clamp (by omega)]
    refine fx_it hj h1 h2 (fun z => br_f (by decide) ⟨vp_in_nI (by omega) (by omega), nm_e ?_⟩) (fun z => br_t rfl (fy_ni (a := 0) (b := 3) (by omega) (by omega) (by omega) (br_f (by decide) ⟨vp_in_nI hj (by omega), br_t ((fy_th Y hj).mpr z) ⟨rfl, R⟩⟩)))
    have hth : ¬ th j = 0 := fun w => z ((fy_th Y hj).mp w)
    refine fy_ni (a := 0) (b := 3) (by omega) (by omega) (by omega) (br_f (by decide) ⟨vp_in_nI hj (by omega), br_f hth ⟨vp_in_nI hj (by omega), nm_e ?_⟩⟩)
    rw [fn_b0]
    have sm : ∀ m, m ≠ 3 + j → fc_sm tk ln m tk (upd ln (3 + j) 0) m := fun m e => fs_l (pk_un e)
    have lm : ∀ m, m ≠ 3 + j → fc_L (upd ln (3 + j) 0) m = fc_L ln m := fun m e => fs_L (sm m e)
    refine ⟨rfl, rfl, rfl, fs_Z.mpr ⟨S.1, fc_sm_sh (sm 0 (by omega)) S.2.1, fun m hm hm2 => ?_⟩, ⟨fun m hm => fs_t (fs_s (sm m (by omega))) (Y.1 m hm), fun a ha => ?_⟩, Fa, Or.inl rfl, T, F⟩
    · by_cases e : m = 3 + j
      · subst e; exact fs_0 pk_us
      · exact fs_m (sm m e) (S.2.2 m hm hm2)
    · by_cases e : a = j
      · subst e
        exact Or.inl ⟨pk_us, fs_L0 pk_us⟩
      · rw [pk_un e]
        rcases Y.2 a ha with ⟨q1, q2⟩ | ⟨q1, q2, q3, q4⟩
        · exact Or.inl ⟨q1, by rw [lm _ (by omega)]; exact q2⟩
        · refine Or.inr ⟨q1, by rw [lm _ (by omega)]; exact q2, fs_t (fs_s (sm _ (by omega))) q3, fun v hv => ?_⟩
          unfold fy_e
          rw [lm (7 + (a * 3 + v)) (by omega)]
          rcases q4 v hv with q | ⟨w1, w2, w3⟩ | q
          · exact Or.inl q
          · exact Or.inr (Or.inl ⟨w1, w2, fs_t (fs_s (sm _ (by omega))) w3⟩)
          · exact Or.inr (Or.inr q)
theorem i_vc_failing {k : Nat} {u : SX} {v : SY} (I : i_Rel k u v) (hk : k + 4 ≤ 2048) (v1 : Int32) : wpX_failing (fun r => wpY_failing (fun r' => r' = r ∧ i_Rel (k + 4) u v) v v1) u v1 := by
  obtain ⟨tl, fc, sz, tk, ln, an, fa, sk, lw, hg, mv, en, dp, ca, rc, re, ho, ae, ta, ow, ts, fs⟩ := u
  obtain ⟨kn, te, fl, yk, yl, vs, th, yf, ef, go, gu, ye, yd, wa, al, yc, tr, fd, ys⟩ := v
  have R := I
  obtain ⟨rfl, rfl, S, Y, Fa, K, T, m, hm, rfl, rfl, hf⟩ := I
  refine br_c (fun z => br_t z ⟨rfl, R⟩) (fun z => br_c (fun w => br_f z (br_f (fun q => Int32.not_lt.mpr w q) ⟨rfl, R⟩)) (fun w => ?_))
  obtain ⟨j, hj, rfl⟩ := nI_of (x := v1) z
  rw [nI_leI (by omega) hj] at w
  rw [nI_clamp hj]
  refine ⟨vp_in_nI (by omega) (by omega), br_f z (br_t (nI_lt (by omega) (by omega)) ⟨vp_in_nI (by omega) (by omega), ?_, R⟩)⟩
  rw [nI_clamp hj, hf j (by omega)]
theorem i_vc_trace {k : Nat} {u : SX} {v : SY} (I : i_Rel k u v) (hk : k + 4 ≤ 2048) (v1 : Int32) : wpX_trace (fun r => wpY_trace (fun r' => r' = r ∧ i_Rel (k + 4) u v) v v1) u v1 := by
  obtain ⟨tl, fc, sz, tk, ln, an, fa, sk, lw, hg, mv, en, dp, ca, rc, re, ho, ae, ta, ow, ts, fs⟩ := u
  obtain ⟨kn, te, fl, yk, yl, vs, th, yf, ef, go, gu, ye, yd, wa, al, yc, tr, fd, ys⟩ := v
  have R := I
  obtain ⟨rfl, rfl, S, Y, Fa, K, ⟨m, hm, rfl, rfl, ht⟩, F⟩ := I
  refine br_c (fun z => br_t z ⟨rfl, R⟩) (fun z => ?_)
  obtain ⟨j, hj, rfl⟩ := nI_of (x := v1) z
  have hle : nI j ≤ nI m + (-1) ↔ j < m := by
    cases m with
    | zero =>
      constructor
      · intro q
        exact absurd (Int32.le_trans (nI_pos' hj) q) (by decide)
      · intro q; omega
    | succ m =>
      rw [pk_m1, nI_leI hj (by omega)]; omega
  refine br_c (fun w => br_f z (br_f (fun q => ?_) ⟨rfl, R⟩)) (fun w => ?_)
  · rw [nI_leI (by omega) hj] at w
    have := hle.mp q
    omega
  · rw [nI_leI (by omega) hj] at w
    rw [nI_clamp hj]
    refine ⟨vp_in_nI (by omega) (by omega), br_f z (br_t (hle.mpr (by omega)) ⟨vp_in_nI (by omega) (by omega), ?_, R⟩)⟩
    rw [nI_clamp hj, ht j (by omega)]
/-! token -/
def fc_nI (t : Int32) : Prop := (¬ t < 0 ∧ ¬ 4 < t) ∨ (¬ t < 10 ∧ ¬ 12 < t) ∨ (¬ t < 20 ∧ ¬ 28 < t)
theorem fc_nIm {t : Int32} (h : fc_nI t) : fc_nm t := by
  have h0 : ¬ t < 0 := by
    rcases h with h | h | h
    · exact h.1
    · exact fun z => h.1 (Int32.lt_trans z (by decide))
    · exact fun z => h.1 (Int32.lt_trans z (by decide))
  obtain ⟨c, hc, rfl⟩ := nI_of h0
  refine ⟨c, rfl, ?_⟩
  unfold fc_nI at h
  rw [show (4 : Int32) = nI 4 from rfl, show (10 : Int32) = nI 10 from rfl, show (12 : Int32) = nI 12 from rfl, show (20 : Int32) = nI 20 from rfl, show (28 : Int32) = nI 28 from rfl, nI_ltI (by omega) hc, nI_ltI (by omega) hc, nI_ltI (by omega) hc, nI_ltI hc (by omega), nI_ltI hc (by omega)] at h
  unfold fc_nc
  omega
theorem fx_tok {post : Int32 → SX → Prop} {t : Int32} (h1 : fc_nI t → wX_token_65 post t tl fc sz tk ln an fa sk lw hg mv en dp ca rc re ho ae ta ow ts fs) (h0 : ¬ fc_nI t → post (-1) (tl, fc, sz, tk, ln, an, fa, sk, lw, hg, mv, en, dp, ca, rc, re, ho, ae, ta, ow, ts, fs)) : wpX_token post (tl, fc, sz, tk, ln, an, fa, sk, lw, hg, mv, en, dp, ca, rc, re, ho, ae, ta, ow, ts, fs) t := by
  have s50 : ∀ x2 x3 z0 : Int32, (x2 ≠ 0 ∨ x3 ≠ 0 ∨ z0 ≠ 0 → fc_nI t) → (x2 = 0 → x3 = 0 → z0 = 0 → ¬ fc_nI t) → wX_token_50 post t x2 x3 z0 tl fc sz tk ln an fa sk lw hg mv en dp ca rc re ho ae ta ow ts fs :=
    fun x2 x3 z0 f g => br_c (fun a => br_c (fun b => br_c (fun c => h0 (g a b c)) (fun c => h1 (f (Or.inr (Or.inr c))))) (fun b => h1 (f (Or.inr (Or.inl b))))) (fun a => h1 (f (Or.inl a)))
  have s32 : ∀ x2 z0 : Int32, (x2 ≠ 0 ∨ z0 ≠ 0 → fc_nI t) → (x2 = 0 → z0 = 0 → (t < 20 ∨ 28 < t) → ¬ fc_nI t) → wX_token_32 post t x2 z0 tl fc sz tk ln an fa sk lw hg mv en dp ca rc re ho ae ta ow ts fs :=
    fun x2 z0 f g => br_c (fun a => s50 x2 z0 0 (fun q => f (q.imp id (fun w => w.elim id (fun w => absurd rfl w)))) (fun p q _ => g p q (Or.inl a)))
      (fun a => br_c (fun b => s50 x2 z0 0 (fun q => f (q.imp id (fun w => w.elim id (fun w => absurd rfl w)))) (fun p q _ => g p q (Or.inr b)))
      (fun b => s50 x2 z0 1 (fun _ => Or.inr (Or.inr ⟨a, b⟩)) (fun _ _ w => absurd w (by decide))))
  have s14 : ∀ z0 : Int32, (z0 ≠ 0 → fc_nI t) → (z0 = 0 → (t < 10 ∨ 12 < t) → (t < 20 ∨ 28 < t) → ¬ fc_nI t) → wX_token_14 post t z0 tl fc sz tk ln an fa sk lw hg mv en dp ca rc re ho ae ta ow ts fs :=
    fun z0 f g => br_c (fun a => s32 z0 0 (fun q => f (q.elim id (fun w => absurd rfl w))) (fun p _ w => g p (Or.inl a) w))
      (fun a => br_c (fun b => s32 z0 0 (fun q => f (q.elim id (fun w => absurd rfl w))) (fun p _ w => g p (Or.inr b) w))
      (fun b => s32 z0 1 (fun _ => Or.inr (Or.inl ⟨a, b⟩)) (fun _ w => absurd w (by decide))))
  have no : (t < 0 ∨ 4 < t) → (t < 10 ∨ 12 < t) → (t < 20 ∨ 28 < t) → ¬ fc_nI t := by
    rintro a b c (h | h | h)
    · exact a.elim h.1 h.2
    · exact b.elim h.1 h.2
    · exact c.elim h.1 h.2
  exact br_c (fun a => s14 0 (fun q => absurd rfl q) (fun _ b c => no (Or.inl a) b c)) (fun a => br_c (fun b => s14 0 (fun q => absurd rfl q) (fun _ c d => no (Or.inr b) c d)) (fun b => s14 1 (fun _ => Or.inl ⟨a, b⟩) (fun w => absurd w (by decide))))
theorem fy_tok {post : Int32 → SY → Prop} {t : Int32} (h1 : fc_nI t → wY_token_36 post t 1 kn te fl yk yl sz th fa ef go gu ye yd wa al yc tr fd ys) (h0 : ¬ fc_nI t → post (-1) (kn, te, fl, yk, yl, sz, th, fa, ef, go, gu, ye, yd, wa, al, yc, tr, fd, ys)) : wpY_token post (kn, te, fl, yk, yl, sz, th, fa, ef, go, gu, ye, yd, wa, al, yc, tr, fd, ys) t := by
  unfold wpY_token
  refine fy_in (fun a b => br_f (by decide) (h1 (Or.inl ⟨a, b⟩))) (fun a => br_t rfl ?_)
  refine fy_in (fun a b => br_f (by decide) (h1 (Or.inr (Or.inl ⟨a, b⟩)))) (fun b => br_t rfl ?_)
  refine fy_in (fun a b => br_f (by decide) (h1 (Or.inr (Or.inr ⟨a, b⟩)))) (fun c => br_t rfl (br_t rfl (h0 ?_)))
  rintro (h | h | h)
  · exact a.elim h.1 h.2
  · exact b.elim h.1 h.2
  · exact c.elim h.1 h.2
theorem fs_tk {tk ln : Nat → Int32} {t : Int32} (h : fc_sh tk ln 0) (hL : fc_L ln 0 < 12) (hn : fc_nm t) : fc_sh (upd tk (fc_L ln 0) t) (upd ln 0 (nI (fc_L ln 0 + 1))) 0 := by
  have e : fc_L (upd ln 0 (nI (fc_L ln 0 + 1))) 0 = fc_L ln 0 + 1 := by
    show (upd ln 0 (nI (fc_L ln 0 + 1)) 0).toNatClampNeg = _
    rw [pk_us, nI_clamp (by omega)]
  refine ⟨by rw [e, pk_us], by omega, fun i hi => ?_⟩
  rw [e] at hi
  rw [Nat.zero_mul, Nat.zero_add]
  by_cases q : i = fc_L ln 0
  · rw [q, pk_us]; exact hn
  · rw [pk_un q]
    have := h.2.2 i (by omega)
    rw [Nat.zero_mul, Nat.zero_add] at this
    exact this
theorem fs_tm {tk ln : Nat → Int32} {t x : Int32} {m : Nat} (hm : 1 ≤ m) (hL : fc_L ln 0 < 12) : fc_sm tk ln m (upd tk (fc_L ln 0) t) (upd ln 0 x) m :=
  ⟨pk_un (by omega), fun i _ => pk_un (by omega)⟩
theorem fy_Sc {tq lq yq lr : Nat → Int32} (hX : ∀ m, 1 ≤ m → m < 19 → fc_sm tk ln m tq lq m) (hY : ∀ m, 1 ≤ m → m < 19 → fc_sm yk yl m yq lr m) (h0 : fc_sm tq lq 0 yq lr 0) (Y : fy_S tk ln an yk yl th ef) : fy_S tq lq an yq lr th ef := by
  refine ⟨fun j hj => ?_, fun a ha => ?_⟩
  · by_cases e : j = 0
    · subst e; exact h0
    · exact fs_t (fs_s (hX j (by omega) (by omega))) (fs_t (Y.1 j hj) (hY j (by omega) (by omega)))
  · have l1 := fs_L (hX (3 + a) (by omega) (by omega))
    rcases Y.2 a ha with ⟨q1, q2⟩ | ⟨q1, q2, q3, q4⟩
    · exact Or.inl ⟨q1, by rw [l1]; exact q2⟩
    · refine Or.inr ⟨q1, by rw [l1]; exact q2, fs_t (fs_s (hX _ (by omega) (by omega))) (fs_t q3 (hY _ (by omega) (by omega))), fun v hv => ?_⟩
      unfold fy_e
      rw [fs_L (hX (7 + (a * 3 + v)) (by omega) (by omega))]
      rcases q4 v hv with q | ⟨w1, w2, w3⟩ | q
      · exact Or.inl q
      · exact Or.inr (Or.inl ⟨w1, w2, fs_t (fs_s (hX _ (by omega) (by omega))) (fs_t w3 (hY _ (by omega) (by omega)))⟩)
      · exact Or.inr (Or.inr q)
theorem fr_kc {tq lq : Nat → Int32} (hX : ∀ m, 1 ≤ m → m < 19 → fc_sm tk ln m tq lq m) (K : fr_k kn sz tk ln an go gu ye yd) : fr_k kn sz tq lq an go gu ye yd := K.imp id (fun q => ⟨q.1, fk_K hX q.2⟩)
theorem fx_Sc {tq lq : Nat → Int32} (hX : ∀ m, 1 ≤ m → m < 19 → fc_sm tk ln m tq lq m) (h0 : fc_sh tq lq 0) (S : fx_S sz tk ln) : fx_S sz tq lq :=
  fs_Z.mpr ⟨S.1, h0, fun j h1 h2 => fs_m (hX j h1 h2) (S.2.2 j h1 h2)⟩
theorem i_vc_token {k : Nat} {u : SX} {v : SY} (I : i_Rel k u v) (hk : k + 4 ≤ 2048) (v1 : Int32) : wpX_token (fun r u' => wpY_token (fun r' v' => r' = r ∧ i_Rel (k + 4) u' v') v v1) u v1 := by
  obtain ⟨tl, fc, sz, tk, ln, an, fa, sk, lw, hg, mv, en, dp, ca, rc, re, ho, ae, ta, ow, ts, fs⟩ := u
  obtain ⟨kn, te, fl, yk, yl, vs, th, yf, ef, go, gu, ye, yd, wa, al, yc, tr, fd, ys⟩ := v
  have R : i_Rel (k + 4) (tl, fc, sz, tk, ln, an, fa, sk, lw, hg, mv, en, dp, ca, rc, re, ho, ae, ta, ow, ts, fs) (kn, te, fl, yk, yl, vs, th, yf, ef, go, gu, ye, yd, wa, al, yc, tr, fd, ys) := I
  obtain ⟨rfl, rfl, S, Y, Fa, K, T, F⟩ := I
  have sm0 := Y.1 0 (by omega)
  have eL := fs_L sm0
  have hs := S.2.1
  have hs2 := fc_sm_sh sm0 hs
  refine fx_tok (fun hn => ?_) (fun hn => fy_tok (fun z => absurd z hn) (fun _ => ⟨rfl, R⟩))
  have y1 := hs.2.1
  refine pk_lt (fc_L ln 0) 12 (fun hL => ?_) (fun hL => fy_tok (fun _ => br_f (by decide) (br_t (show yl 0 = 12 from ?_) ⟨rfl, R⟩)) (fun z => absurd hn z)) hs.1
  · have hx : (0 : Int32) + ln 0 = nI (fc_L ln 0) := by rw [Int32.zero_add]; exact hs.1
    rw [hx, nI_clamp (by omega), hs.1, nI_1]
    refine ⟨vp_in_nI (by omega) (by omega), nm_e (nm_e (fy_tok (fun _ => br_f (by decide) ?_) (fun z => absurd hn z)))⟩
    have hy : yl 0 = nI (fc_L ln 0) := sm0.1.trans hs.1
    rw [hy, nI_clamp (by omega), nI_1]
    refine br_f ?_ ⟨vp_in_nI (by omega) (by omega), nm_e (nm_e ⟨?_, rfl, rfl, fx_Sc (fun m h1 _ => fs_tm h1 hL) (fs_tk hs hL (fc_nIm hn)) S, fy_Sc (fun m h1 _ => fs_tm h1 hL) (fun m h1 _ => ?_) ?_ Y, Fa, fr_kc (fun m h1 _ => fs_tm h1 hL) K, T, F⟩)⟩
    · rw [show (12 : Int32) = nI 12 from rfl, nI_eq (by omega) (by omega)]; omega
    · rw [pk_us, pk_us]
    · rw [← eL]; exact fs_tm h1 (by omega)
    · refine ⟨by rw [pk_us, pk_us], fun i hi => ?_⟩
      have e : fc_L (upd ln 0 (nI (fc_L ln 0 + 1))) 0 = fc_L ln 0 + 1 := by
        show (upd ln 0 (nI (fc_L ln 0 + 1)) 0).toNatClampNeg = _
        rw [pk_us, nI_clamp (by omega)]
      rw [e] at hi
      by_cases q : 0 * 12 + i = fc_L ln 0
      · rw [q, pk_us, pk_us]
      · rw [pk_un q, pk_un q]; exact sm0.2 i (by omega)
  · rw [sm0.1, hs.1, show fc_L ln 0 = 12 by omega]; rfl
end FS2
