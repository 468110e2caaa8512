section FYK
variable {kn te fl : Int32} {yk yl sz th fa ef : Nat → Int32} {go : Nat → Int64} {gu ye yd : Nat → Int32} {wa al yc : Nat → Int64} {tr fd ys : Nat → Int32} {tk ln an : Nat → Int32}
theorem fy_fu {post : Int32 → SY → Prop} (hz : fc_Z sz) (Y : fy_S tk ln an yk yl th ef) (G : fy_G sz tk ln an go) {s d : Nat} (hs : s < fc_N sz) (hd2 : d < 2 ^ 30)
    (hv : ∀ t, t < fc_N sz → yd t = -1 ∨ ∃ e, e < 2 ^ 30 ∧ yd t = nI e)
    (hp : ∀ dq r, fg_dn (fc_N sz) (fc_st sz tk ln an) d s yd dq → ((r = 0 ∧ ∀ t, t < fc_N sz → dq t = yd t) ∨ (r = 1 ∧ ∃ t, t < fc_N sz ∧ dq t = nI (d + 1))) → post r (kn, te, fl, yk, yl, sz, th, fa, ef, go, gu, ye, dq, wa, al, yc, tr, fd, ys)) : wpY_further post (kn, te, fl, yk, yl, sz, th, fa, ef, go, gu, ye, yd, wa, al, yc, tr, fd, ys) (nI s) (nI (fc_N sz)) (nI d) := by
  have hN := fc_N1 hz
  refine pk_loop (fun n i p => wY_further_6 post (nI s) (nI (fc_N sz)) (nI d) kn te fl n p.1 (nI i) yk yl sz th fa ef go gu ye p.2 wa al yc tr fd ys) (fun i (p : Int32 × (Nat → Int32)) => (∀ t, t < i → (yd t = -1 ∧ fc_st sz tk ln an s t ∧ p.2 t = nI (d + 1)) ∨ (¬ (yd t = -1 ∧ fc_st sz tk ln an s t) ∧ p.2 t = yd t)) ∧ (∀ t, i ≤ t → p.2 t = yd t) ∧ ((p.1 = 0 ∧ ∀ t, t < i → p.2 t = yd t) ∨ (p.1 = 1 ∧ ∃ t, t < i ∧ p.2 t = nI (d + 1)))) (fc_N sz) 0 (0, yd) (by omega) ⟨fun t ht => absurd ht (by omega), fun t _ => rfl, Or.inl ⟨rfl, fun _ _ => rfl⟩⟩ (fun n p I => ?_) (fun n i p hi I k => ?_)
  · obtain ⟨r, q⟩ := p
    obtain ⟨I1, I2, I3⟩ := I
    refine pk_le (fc_N sz) (fc_N sz) (fun _ => ⟨?_, hp q r I1 I3⟩) (fun z => absurd z (by omega))
    rcases I3 with ⟨e, _⟩ | ⟨e, _⟩
    · show narrow .boolean (.int r) = .int r
      rw [show r = 0 from e]; exact fn_n0
    · show narrow .boolean (.int r) = .int r
      rw [show r = 1 from e]; exact fn_n1
  · obtain ⟨r, q⟩ := p
    obtain ⟨I1, I2, I3⟩ := I
    have I1 : ∀ t, t < i → (yd t = -1 ∧ fc_st sz tk ln an s t ∧ q t = nI (d + 1)) ∨ (¬ (yd t = -1 ∧ fc_st sz tk ln an s t) ∧ q t = yd t) := I1
    have I2 : ∀ t, i ≤ t → q t = yd t := I2
    have I3 : (r = 0 ∧ ∀ t, t < i → q t = yd t) ∨ (r = 1 ∧ ∃ t, t < i ∧ q t = nI (d + 1)) := I3
    refine pk_le (fc_N sz) i (fun z => absurd z (by omega)) (fun _ => ?_)
    refine ⟨vp_in_nI (by omega) (by omega), ?_⟩
    dsimp only
    rw [nI_clamp (by omega), I2 i (Nat.le_refl _)]
    have keep : ¬ (yd i = -1 ∧ fc_st sz tk ln an s i) → wY_further_6 post (nI s) (nI (fc_N sz)) (nI d) kn te fl n r (nI (i + 1)) yk yl sz th fa ef go gu ye q wa al yc tr fd ys := by
      intro z
      refine k (r, q) ⟨fun t ht => ?_, fun t ht => I2 t (by omega), ?_⟩
      · by_cases e : t = i
        · subst e; exact Or.inr ⟨z, I2 t (by omega)⟩
        · exact I1 t (by omega)
      · rcases I3 with ⟨e, f⟩ | ⟨e, t, ht, f⟩
        · refine Or.inl ⟨e, fun t ht => ?_⟩
          by_cases e : t = i
          · subst e; exact I2 t (by omega)
          · exact f t (by omega)
        · exact Or.inr ⟨e, t, by omega, f⟩
    rcases hv i hi with e | ⟨e, he, ee⟩
    · refine br_f (by rw [e]; decide) (fy_sp hz Y G hs hi (fun w => br_f (by decide) ⟨vp_in_nI (by omega) (by omega), ?_⟩) (fun w => br_t rfl (nm_r (nI_1 i) (keep (fun q => w q.2)))))
      rw [nI_1]
      refine nm_e (nm_r (nI_1 i) (k (1, _) ⟨fun t ht => ?_, fun t ht => ?_, Or.inr ⟨rfl, i, by omega, pk_us⟩⟩))
      · show (_ ∧ _ ∧ upd q i (nI (d + 1)) t = _) ∨ (_ ∧ upd q i (nI (d + 1)) t = _)
        by_cases e2 : t = i
        · subst e2
          rw [pk_us]
          exact Or.inl ⟨e, w, rfl⟩
        · rw [pk_un e2]; exact I1 t (by omega)
      · show upd q i (nI (d + 1)) t = _
        rw [pk_un (by omega)]; exact I2 t (by omega)
    · refine br_t (by rw [ee]; exact nI_pos' (by omega)) (nm_r (nI_1 i) (keep ?_))
      rintro ⟨q, _⟩
      rw [ee] at q
      exact fn_ne1 (by omega) q
def fy_K (sz tk ln an : Nat → Int32) (go : Nat → Int64) (gu ye yd : Nat → Int32) : Prop := fy_G sz tk ln an go ∧ (∀ s, s < fc_N sz → fb_4 (gu s) (fun a => fc_g sz tk ln a s) ∧ fb_4 (ye s) (fun a => fc_en sz tk ln an a s)) ∧ fc_Dp sz tk ln an yd
theorem fg_Ix {N : Nat} {I0 : Nat → Prop} {st : Nat → Nat → Prop} {d : Nat} {dp : Nat → Int32} (hd : d < 2 ^ 20) (h : fg_I N I0 st d N dp) {t : Nat} (ht : t < N) : dp t ≠ nI (d + 2) := by
  intro q
  rcases h t ht with ⟨k, hk, ek, g⟩ | ⟨ek, g⟩ | ⟨ek, g⟩
  · rw [ek, nI_eq (by omega) (by omega)] at q; omega
  · rw [ek, nI_eq (by omega) (by omega)] at q; omega
  · rw [ek] at q; exact fn_ne1 (by omega) q.symm
/-- the depths -/
theorem fy_kd {post : SY → Prop} (S : fx_S sz tk ln) (Y : fy_S tk ln an yk yl th ef) (G : fy_G sz tk ln an go)
    (hp : ∀ ys' yd', fc_Dp sz tk ln an yd' → post (kn, te, fl, yk, yl, sz, th, fa, ef, go, gu, ye, yd', wa, al, yc, tr, fd, ys')) : ∃ n, wY_know_98 post (nI (fc_N sz)) n 0 kn te fl yk yl sz th fa ef go gu ye yd wa al yc tr fd ys := by
  have hz := S.1
  have hN := fc_N1 hz
  refine pk_loop (fun n i p => wY_know_98 post (nI (fc_N sz)) n (nI i) kn te fl yk yl sz th fa ef go gu ye p.2 wa al yc tr fd p.1) (fun i (p : (Nat → Int32) × (Nat → Int32)) => ∀ s, s < i → (fc_i sz tk ln s ∧ p.2 s = 0) ∨ (¬ fc_i sz tk ln s ∧ p.2 s = -1)) (fc_N sz) 0 (ys, yd) (by omega) (fun v hv => absurd hv (by omega)) (fun n p I => ?_) (fun n i p hi I k => ?_)
  · obtain ⟨ys, yd⟩ := p
    have I : ∀ s, s < fc_N sz → (fc_i sz tk ln s ∧ yd s = 0) ∨ (¬ fc_i sz tk ln s ∧ yd s = -1) := I
    refine pk_le (fc_N sz) (fc_N sz) (fun _ => ?_) (fun z => absurd z (by omega))
    refine loop_m (fun n (p : Int32 × Nat × (Nat → Int32)) => wY_know_133 post (nI (fc_N sz)) n p.1 (nI p.2.1) kn te fl yk yl sz th fa ef go gu ye p.2.2 wa al yc tr fd ys)
      (fun p => (p.1 = 0 ∧ fc_Dp sz tk ln an p.2.2) ∨ (p.1 = 1 ∧ p.2.1 ≤ fc_N sz ∧ fg_I (fc_N sz) (fc_i sz tk ln) (fc_st sz tk ln an) p.2.1 0 p.2.2 ∧ ∀ t, t < fc_N sz → p.2.2 t ≠ nI (p.2.1 + 1)))
      (fun p => if p.1 = 0 then 0 else fc_N sz + 2 - p.2.1) (fun n p J k => ?_) (1, 0, yd) (Or.inr ⟨rfl, Nat.zero_le _, fg_I0 I, fun t ht => ?_⟩)
    · obtain ⟨m, d, yd⟩ := p
      rcases J with ⟨e, J⟩ | ⟨e, J1, J2, J3⟩
      · have e : m = 0 := e
        subst e
        exact br_t rfl (hp ys yd J)
      · have e : m = 1 := e
        subst e
        have J1 : d ≤ fc_N sz := J1
        have J2 : fg_I (fc_N sz) (fc_i sz tk ln) (fc_st sz tk ln an) d 0 yd := J2
        have J3 : ∀ t, t < fc_N sz → yd t ≠ nI (d + 1) := J3
        refine br_f (show ¬ (1 : Int32) = 0 by decide) ?_
        refine pk_loop (fun n' i p => wY_know_142 post (wY_know_133 post (nI (fc_N sz)) n) (nI (fc_N sz)) (nI d) n' p.1 (nI i) kn te fl yk yl sz th fa ef go gu ye p.2 wa al yc tr fd ys) (fun i (p : Int32 × (Nat → Int32)) => fg_I (fc_N sz) (fc_i sz tk ln) (fc_st sz tk ln an) d i p.2 ∧ ((p.1 = 0 ∧ ∀ t, t < fc_N sz → p.2 t ≠ nI (d + 1)) ∨ (p.1 = 1 ∧ ∃ t, t < fc_N sz ∧ p.2 t = nI (d + 1)))) (fc_N sz) 0 (0, yd) (by omega) ⟨J2, Or.inl ⟨rfl, J3⟩⟩ (fun n' p L => ?_) (fun n' i p hi L k2 => ?_)
        · obtain ⟨m, q⟩ := p
          obtain ⟨L1, L2⟩ := L
          have L1 : fg_I (fc_N sz) (fc_i sz tk ln) (fc_st sz tk ln an) d (fc_N sz) q := L1
          refine pk_le (fc_N sz) (fc_N sz) (fun _ => nm_r (nI_1 d) ?_) (fun z => absurd z (by omega))
          have L3 := fg_en L1
          rcases L2 with ⟨e, f⟩ | ⟨e, t, ht, f⟩
          · have e : m = 0 := e
            subst e
            have f : ∀ t, t < fc_N sz → q t ≠ nI (d + 1) := f
            refine k (0, d + 1, q) (Or.inl ⟨rfl, ?_⟩) ?_
            · have no : ∀ s, ¬ fg_F (fc_N sz) (fc_i sz tk ln) (fc_st sz tk ln an) (d + 1) s := fun s z => f s (fg_Flt z) (fg_Ii L3 z)
              exact fg_fY L3 (fg_no no 1)
            · show 0 < fc_N sz + 2 - d
              omega
          · have e : m = 1 := e
            subst e
            have f : q t = nI (d + 1) := f
            have fb := fg_Fb (fg_Ie (by omega) (by omega) L3 ht f)
            refine k (1, d + 1, q) (Or.inr ⟨rfl, by show d + 1 ≤ _; omega, L3, fun t ht => fg_Ix (by omega) L1 ht⟩) ?_
            show fc_N sz + 2 - (d + 1) < fc_N sz + 2 - d
            omega
        · obtain ⟨m, q⟩ := p
          obtain ⟨L1, L2⟩ := L
          have L1 : fg_I (fc_N sz) (fc_i sz tk ln) (fc_st sz tk ln an) d i q := L1
          have L2 : (m = 0 ∧ ∀ t, t < fc_N sz → q t ≠ nI (d + 1)) ∨ (m = 1 ∧ ∃ t, t < fc_N sz ∧ q t = nI (d + 1)) := L2
          refine pk_le (fc_N sz) i (fun z => absurd z (by omega)) (fun _ => ?_)
          refine ⟨vp_in_nI (by omega) (by omega), ?_⟩
          rw [nI_clamp (by omega)]
          refine br_c (fun e => ?_) (fun e => nm_r (nI_1 i) (k2 (m, q) ⟨fg_sk L1 e, L2⟩))
          refine fy_fu hz Y G hi (by omega) (fun t ht => fx_Iv (by omega) L1 t ht) (fun dq r hq hr => ?_)
          have st := fg_st L1 (fg_Ie (by omega) (by omega) L1 hi e) hq (by omega)
          rcases hr with ⟨rfl, hr⟩ | ⟨rfl, hr⟩
          · refine br_t rfl (nm_r (nI_1 i) (k2 (m, dq) ⟨st, ?_⟩))
            rcases L2 with ⟨e, f⟩ | ⟨e, t, ht, f⟩
            · exact Or.inl ⟨e, fun t ht => by show dq t ≠ _; rw [hr t ht]; exact f t ht⟩
            · exact Or.inr ⟨e, t, ht, by show dq t = _; rw [hr t ht]; exact f⟩
          · exact br_f (by decide) (nm_r (nI_1 i) (k2 (1, dq) ⟨st, Or.inr ⟨rfl, hr⟩⟩))
    · show yd t ≠ nI 1
      rcases I t ht with ⟨_, e⟩ | ⟨_, e⟩
      · rw [e]; decide
      · rw [e]; decide
  · obtain ⟨ys, yd⟩ := p
    refine pk_le (fc_N sz) i (fun z => absurd z (by omega)) (fun _ => ?_)
    obtain ⟨h1, h2, h3⟩ := S.2.2 1 (by omega) (by omega)
    have sm := Y.1 1 (by omega)
    obtain ⟨sl, _⟩ := fc_sm_T sm
    have fin : ∀ sk' x, ((fc_i sz tk ln i ∧ x = 0) ∨ (¬ fc_i sz tk ln i ∧ x = -1)) → wY_know_98 post (nI (fc_N sz)) n (nI (i + 1)) kn te fl yk yl sz th fa ef go gu ye (upd yd i x) wa al yc tr fd sk' := by
      intro sk' x h
      refine k (sk', upd yd i x) (fun s hs => ?_)
      by_cases e : s = i
      · subst e; show (_ ∧ upd yd s x s = 0) ∨ (_ ∧ upd yd s x s = -1); rw [pk_us]; exact h
      · show (_ ∧ upd yd i x s = 0) ∨ (_ ∧ upd yd i x s = -1); rw [pk_un e]; exact I s (by omega)
    have etr : fc_tr sz yk yl 1 i = fc_tr sz tk ln 1 i := by unfold fc_tr; rw [sl, fc_sm_w sm]
    refine fy_is hz (j := 1) (by omega) hi (by rw [sl]; exact h3.imp id (fc_sm_ok sm)) (by rw [sl, sm.1]; exact h1) (by omega) (fun sk' => ?_)
    rw [nI_clamp (by omega), etr]
    cases e : fc_tr sz tk ln 1 i
    · refine br_t (by rfl) ⟨vp_in_nI (by omega) (by omega), nm_e (nm_r (nI_1 i) (fin sk' _ (Or.inr ⟨?_, rfl⟩)))⟩
      unfold fc_i; rw [e]; decide
    · refine br_f (by decide) ⟨vp_in_nI (by omega) (by omega), nm_e (nm_r (nI_1 i) (fin sk' _ (Or.inl ⟨e, rfl⟩)))⟩
/-- goes, guards and enabled up to state s, and at s up to action a -/
def fy_J (sz tk ln an : Nat → Int32) (s a : Nat) (go : Nat → Int64) (gu ye : Nat → Int32) : Prop :=
  (∀ b s' t, b < 4 → s' < fc_N sz → t < fc_N sz → fl_h go (250 * b + 2 * s') t = (decide (s' < s ∨ (s' = s ∧ b < a)) && fc_M sz tk ln an b s' t)) ∧
  (∀ s', s' < s → fb_4 (gu s') (fun a => fc_g sz tk ln a s') ∧ fb_4 (ye s') (fun a => fc_en sz tk ln an a s')) ∧ fb_4 (gu s) (fun b => decide (b < a) && fc_g sz tk ln b s) ∧ fb_4 (ye s) (fun b => decide (b < a) && fc_en sz tk ln an b s)
theorem fy_Jl {s a : Nat} {go' : Nat → Int64} {gu' ye' : Nat → Int32} (hz : fc_Z sz) (hs : s < fc_N sz) (ha : a < 4) (J : fy_J sz tk ln an s a go gu ye) (L : fy_L sz tk ln an a s go gu ye go' gu' ye') : fy_J sz tk ln an s (a + 1) go' gu' ye' := by
  have hN := fc_N1 hz
  obtain ⟨J1, J2, J3, J4⟩ := J
  obtain ⟨L1, L2, L3, L4⟩ := L
  refine ⟨fun b s' t hb hs' ht => ?_, fun s' hs' => ?_, ?_, ?_⟩
  · rw [L1 _ _ (by omega) (by omega), J1 b s' t hb hs' ht]
    by_cases e : b = a ∧ s' = s
    · obtain ⟨rfl, rfl⟩ := e
      have q1 : decide (s' < s' ∨ (s' = s' ∧ b < b)) = false := decide_eq_false (by omega)
      have q2 : decide (250 * b + 2 * s' = 250 * b + 2 * s' ∧ t < fc_N sz) = true := decide_eq_true ⟨rfl, ht⟩
      have q3 : decide (s' < s' ∨ (s' = s' ∧ b < b + 1)) = true := decide_eq_true (by omega)
      rw [q1, q2, q3]; rfl
    · have q2 : decide (250 * b + 2 * s' = 250 * a + 2 * s ∧ t < fc_N sz) = false := decide_eq_false (by omega)
      rw [q2, Bool.false_and, Bool.or_false]
      congr 1
      exact decide_eq_decide.mpr (by omega)
  · rw [(L2 s' (by omega)).1, (L2 s' (by omega)).2]
    exact J2 s' hs'
  · rw [L3]
    cases q : fc_g sz tk ln a s
    · exact fb_sf J3 q
    · exact fb_st ha J3 q
  · rw [L4]
    cases q : fc_en sz tk ln an a s
    · exact fb_sf J4 q
    · exact fb_st ha J4 q
theorem fy_Jn {s a : Nat} (h : fc_L ln (3 + a) = 0) (J : fy_J sz tk ln an s a go gu ye) : fy_J sz tk ln an s (a + 1) go gu ye := by
  obtain ⟨J1, J2, J3, J4⟩ := J
  refine ⟨fun b s' t hb hs' ht => ?_, J2, fb_sf J3 ?_, fb_sf J4 ?_⟩
  · rw [J1 b s' t hb hs' ht]
    by_cases e : b = a ∧ s' = s
    · obtain ⟨rfl, rfl⟩ := e
      rw [fy_M0 h, Bool.and_false, Bool.and_false]
    · congr 1
      exact decide_eq_decide.mpr (by omega)
  · unfold fc_g
    rw [decide_eq_false (fun k => k h), Bool.false_and]
  · exact fc_ekf (fun t => fy_M0 h) _
theorem fy_kn {post : SY → Prop} (S : fx_S sz tk ln) (Y : fy_S tk ln an yk yl th ef) (K : kn = 0 ∨ (kn = 1 ∧ fy_K sz tk ln an go gu ye yd))
    (hp : ∀ go' gu' ye' yd' ys', fy_K sz tk ln an go' gu' ye' yd' → post (1, te, fl, yk, yl, sz, th, fa, ef, go', gu', ye', yd', wa, al, yc, tr, fd, ys')) : wpY_know post (kn, te, fl, yk, yl, sz, th, fa, ef, go, gu, ye, yd, wa, al, yc, tr, fd, ys) := by
  have hz := S.1
  have hN := fc_N1 hz
  rcases K with rfl | ⟨rfl, K⟩
  · refine br_t rfl (fy_ns hz ?_)
    refine pk_loop (fun n i g => wY_know_20 post (nI (fc_N sz)) 1 te fl n (nI i) yk yl sz th fa ef g gu ye yd wa al yc tr fd ys) (fun i g => ∀ j, j < i → g j = 0) 1000 0 go (by omega) (fun v hv => absurd hv (by omega)) (fun n g I => ?_) (fun n i g hi I k => ?_)
    · refine br_t (by decide) ?_
      refine pk_loop (fun n i p => wY_know_42 post (nI (fc_N sz)) n (nI i) 1 te fl yk yl sz th fa ef p.2.1 p.2.2.1 p.2.2.2 yd wa al yc tr fd p.1) (fun i (p : (Nat → Int32) × (Nat → Int64) × (Nat → Int32) × (Nat → Int32)) => (∀ b s' t, b < 4 → s' < fc_N sz → t < fc_N sz → fl_h p.2.1 (250 * b + 2 * s') t = (decide (s' < i) && fc_M sz tk ln an b s' t)) ∧ ∀ s', s' < i → fb_4 (p.2.2.1 s') (fun a => fc_g sz tk ln a s') ∧ fb_4 (p.2.2.2 s') (fun a => fc_en sz tk ln an a s')) (fc_N sz) 0 (ys, g, gu, ye) (by omega) ⟨fun b s' t hb hs' ht => ?_, fun v hv => absurd hv (by omega)⟩ (fun n p J => ?_) (fun n i p hi J k => ?_)
      · show fl_b (g (250 * b + 2 * s' + t / 64)) (t % 64) = _
        rw [I _ (by omega), fl_0, decide_eq_false (by omega), Bool.false_and]
      · obtain ⟨ys, go, gu, ye⟩ := p
        obtain ⟨J1, J2⟩ := J
        have G : fy_G sz tk ln an go := by
          intro a s t ha hs ht
          have : fl_h go (250 * a + 2 * s) t = (decide (s < fc_N sz) && fc_M sz tk ln an a s t) := J1 a s t ha hs ht
          rw [this, decide_eq_true hs, Bool.true_and]
        refine pk_le (fc_N sz) (fc_N sz) (fun _ => ?_) (fun z => absurd z (by omega))
        exact fy_kd S Y G (fun ys' yd' hd => hp go gu ye yd' ys' ⟨G, J2, hd⟩)
      · obtain ⟨ys, go, gu, ye⟩ := p
        obtain ⟨J1, J2⟩ := J
        have J1 : ∀ b s' t, b < 4 → s' < fc_N sz → t < fc_N sz → fl_h go (250 * b + 2 * s') t = (decide (s' < i) && fc_M sz tk ln an b s' t) := J1
        have J2 : ∀ s', s' < i → fb_4 (gu s') (fun a => fc_g sz tk ln a s') ∧ fb_4 (ye s') (fun a => fc_en sz tk ln an a s') := J2
        refine pk_le (fc_N sz) i (fun z => absurd z (by omega)) (fun _ => ?_)
        refine ⟨vp_in_nI (by omega) (by omega), ?_⟩
        rw [nI_clamp (by omega)]
        refine nm_e ⟨vp_in_nI (by omega) (by omega), nm_e ?_⟩
        refine pk_loop (fun n' a p => wY_know_63 post (wY_know_42 post (nI (fc_N sz)) n) (nI (fc_N sz)) (nI i) n' (nI a) 1 te fl yk yl sz th fa ef p.2.1 p.2.2.1 p.2.2.2 yd wa al yc tr fd p.1) (fun a (p : (Nat → Int32) × (Nat → Int64) × (Nat → Int32) × (Nat → Int32)) => fy_J sz tk ln an i a p.2.1 p.2.2.1 p.2.2.2) 4 0 (ys, go, upd gu i 0, upd ye i 0) (by omega) ⟨fun b s' t hb hs' ht => ?_, fun s' hs' => ?_, ?_, ?_⟩ (fun n' p L => ?_) (fun n' a p ha L k2 => ?_)
        · show fl_h go _ _ = _
          rw [J1 b s' t hb hs' ht]
          congr 1
          exact decide_eq_decide.mpr (by omega)
        · show fb_4 (upd gu i 0 s') _ ∧ fb_4 (upd ye i 0 s') _
          rw [pk_un (by omega), pk_un (by omega)]; exact J2 s' hs'
        · show fb_4 (upd gu i 0 i) _
          rw [pk_us]; exact fb_s0
        · show fb_4 (upd ye i 0 i) _
          rw [pk_us]; exact fb_s0
        · obtain ⟨ys, go, gu, ye⟩ := p
          obtain ⟨L1, L2, L3, L4⟩ := L
          refine br_t (by decide) (nm_r (nI_1 i) (k (ys, go, gu, ye) ⟨fun b s' t hb hs' ht => ?_, fun s' hs' => ?_⟩))
          · show fl_h go _ _ = _
            rw [L1 b s' t hb hs' ht]
            congr 1
            exact decide_eq_decide.mpr (by omega)
          · by_cases e : s' = i
            · subst e; exact ⟨fb_s4 L3, fb_s4 L4⟩
            · exact L2 s' (by omega)
        · obtain ⟨ys, go, gu, ye⟩ := p
          refine pk_le 4 a (fun z => absurd z (by omega)) (fun _ => ?_)
          refine ⟨vp_in_nI (by omega) (by omega), ?_⟩
          rw [nI_clamp (by omega)]
          refine br_c (fun e => nm_r (nI_1 a) (k2 (ys, go, gu, ye) (fy_Jn ((fy_th Y ha).mp e) L))) (fun e => ?_)
          refine fy_ld S Y ha hi e (fun ys' go' gu' ye' M => ?_)
          exact nm_r (nI_1 a) (k2 (ys', go', gu', ye') (fy_Jl hz hi ha L M))
    · refine pk_le 1000 i (fun z => absurd z (by omega)) (fun _ => ?_)
      rw [nI_clamp (by omega)]
      refine ⟨vp_in_nI (by omega) (by omega), nm_e (nm_r (nI_1 i) (k _ (fun j hj => ?_)))⟩
      by_cases e : j = i
      · subst e; exact pk_uLs
      · rw [pk_uLn e]; exact I j (by omega)
  · exact br_f (by decide) (hp go gu ye yd ys K)
end FYK
