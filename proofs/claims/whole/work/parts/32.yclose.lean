section FYC
variable {kn te fl : Int32} {yk yl sz th fa ef : Nat → Int32} {go : Nat → Int64} {gu ye yd : Nat → Int32} {wa al yc : Nat → Int64} {tr fd ys : Nat → Int32} {tk ln an : Nat → Int32} {A : Nat → Prop}
theorem fn_2m (s : Nat) : 2 * nI s = nI (2 * s) := pk_mul 2 s
theorem fy_c2 {post : SY → Prop} (hz : fc_Z sz) (Y : fy_S tk ln an yk yl th ef) (G : fy_G sz tk ln an go) (hA : ∀ s, s < fc_N sz → (fl_h al 0 s = true ↔ A s))
    (hp : ∀ wa', (∀ s t, s < fc_N sz → t < fc_N sz → (fl_h wa' (2 * s) t = true ↔ fw_W (fc_N sz) (fc_st sz tk ln an) A (fc_N sz) s t)) → post (kn, te, fl, yk, yl, sz, th, fa, ef, go, gu, ye, yd, wa', al, yc, tr, fd, ys)) : wpY_close post (kn, te, fl, yk, yl, sz, th, fa, ef, go, gu, ye, yd, wa, al, yc, tr, fd, ys) (nI (fc_N sz)) := by
  have hN := fc_N1 hz
  refine pk_loop (fun n i wa => wY_close_2 post (nI (fc_N sz)) n (nI i) kn te fl yk yl sz th fa ef go gu ye yd wa al yc tr fd ys) (fun i wa => ∀ s t, s < i → t < fc_N sz → (fl_h wa (2 * s) t = true ↔ fw_W (fc_N sz) (fc_st sz tk ln an) A 0 s t)) (fc_N sz) 0 wa (by omega) (fun s t hs => absurd hs (by omega)) (fun n wa I => ?_) (fun n i wa hi I k => ?_)
  · refine pk_le (fc_N sz) (fc_N sz) (fun _ => ?_) (fun z => absurd z (by omega))
    refine pk_loop (fun n m wa => wY_close_100 post (nI (fc_N sz)) kn te fl n (nI m) yk yl sz th fa ef go gu ye yd wa al yc tr fd ys) (fun m wa => ∀ s t, s < fc_N sz → t < fc_N sz → (fl_h wa (2 * s) t = true ↔ fw_W (fc_N sz) (fc_st sz tk ln an) A m s t)) (fc_N sz) 0 wa (by omega) I (fun n wa J => ?_) (fun n m wa hmN J k => ?_)
    · exact pk_le (fc_N sz) (fc_N sz) (fun _ => hp wa J) (fun z => absurd z (by omega))
    · refine pk_le (fc_N sz) m (fun z => absurd z (by omega)) (fun _ => ?_)
      refine pk_loop (fun n' i wa => wY_close_107 post (wY_close_100 post (nI (fc_N sz)) kn te fl n) (nI (fc_N sz)) (nI m) kn te fl n' (nI i) yk yl sz th fa ef go gu ye yd wa al yc tr fd ys) (fun i wa => ∀ s t, s < fc_N sz → t < fc_N sz → (fl_h wa (2 * s) t = true ↔ ((s < i ∧ fw_W (fc_N sz) (fc_st sz tk ln an) A (m + 1) s t) ∨ (i ≤ s ∧ fw_W (fc_N sz) (fc_st sz tk ln an) A m s t)))) (fc_N sz) 0 wa (by omega) (fun s t hs ht => ?_) (fun n' wa L => ?_) (fun n' i wa hi L k2 => ?_)
      · exact (J s t hs ht).trans ⟨fun q => Or.inr ⟨by omega, q⟩, fun q => q.elim (fun w => absurd w.1 (by omega)) (fun w => w.2)⟩
      · refine pk_le (fc_N sz) (fc_N sz) (fun _ => nm_r (nI_1 m) (k wa (fun s t hs ht => ?_))) (fun z => absurd z (by omega))
        exact (L s t hs ht).trans ⟨fun q => q.elim (fun w => w.2) (fun w => absurd w.1 (by omega)), fun q => Or.inl ⟨hs, q⟩⟩
      · refine pk_le (fc_N sz) i (fun z => absurd z (by omega)) (fun _ => ?_)
        have rm : ∀ t, t < fc_N sz → (fl_h wa (2 * m) t = true ↔ fw_W (fc_N sz) (fc_st sz tk ln an) A m m t) := by
          intro t ht
          rw [L m t hmN ht]
          exact ⟨fun q => q.elim (fun w => fw_mm.mp w.2) (fun w => w.2), fun q => if h : m < i then Or.inl ⟨h, fw_mm.mpr q⟩ else Or.inr ⟨by omega, q⟩⟩
        have ri : ∀ t, t < fc_N sz → (fl_h wa (2 * i) t = true ↔ fw_W (fc_N sz) (fc_st sz tk ln an) A m i t) := by
          intro t ht
          rw [L i t hi ht]
          exact ⟨fun q => q.elim (fun w => absurd w.1 (by omega)) (fun w => w.2), fun q => Or.inr ⟨by omega, q⟩⟩
        have up : ∀ re', (∀ t, t < fc_N sz → (fl_h re' (2 * i) t = true ↔ fw_W (fc_N sz) (fc_st sz tk ln an) A (m + 1) i t)) → (∀ s t, s < fc_N sz → s ≠ i → t < fc_N sz → fl_h re' (2 * s) t = fl_h wa (2 * s) t) → ∀ s t, s < fc_N sz → t < fc_N sz → (fl_h re' (2 * s) t = true ↔ ((s < i + 1 ∧ fw_W (fc_N sz) (fc_st sz tk ln an) A (m + 1) s t) ∨ (i + 1 ≤ s ∧ fw_W (fc_N sz) (fc_st sz tk ln an) A m s t))) := by
          intro re' h1 h2 s t hs ht
          by_cases e : s = i
          · subst e
            exact (h1 t ht).trans ⟨fun q => Or.inl ⟨by omega, q⟩, fun q => q.elim (fun w => w.2) (fun w => absurd w.1 (by omega))⟩
          · rw [h2 s t hs e ht]
            exact (L s t hs ht).trans ⟨fun q => q.imp (fun w => ⟨by omega, w.2⟩) (fun w => ⟨by omega, w.2⟩), fun q => q.imp (fun w => ⟨by omega, w.2⟩) (fun w => ⟨by omega, w.2⟩)⟩
        have e3 : 2 * nI i + 1 = nI (2 * i + 1) := by rw [fn_2m]; exact nI_1 _
        have e4 : 2 * nI m + 1 = nI (2 * m + 1) := by rw [fn_2m]; exact nI_1 _
        rw [e3, e4, fn_2m i, fn_2m m, nI_clamp (n := 2 * i) (by omega), nI_clamp (n := 2 * m) (by omega), nI_clamp (n := 2 * i + 1) (by omega), nI_clamp (n := 2 * m + 1) (by omega)]
        refine fy_h_ways (by omega) (by omega) (fun q => br_f (by decide) ?_) (fun q => br_t rfl (nm_r (nI_1 i) (k2 wa (up wa (fun t ht => ?_) (fun _ _ _ _ _ => rfl)))))
        · refine ⟨vp_in_nI (by omega) (by omega), vp_in_nI (by omega) (by omega), vp_in_nI (by omega) (by omega), nm_e ⟨vp_in_nI (by omega) (by omega), vp_in_nI (by omega) (by omega), vp_in_nI (by omega) (by omega), nm_e (nm_r (nI_1 i) (k2 (fl_ro wa (2 * i) (2 * m)) (up _ (fun t ht => ?_) (fun s t hs e ht => ?_))))⟩⟩
          · rw [fl_rb wa (by omega) (by omega) (by omega) (by omega), if_pos rfl, Bool.or_eq_true, ri t ht, rm t ht]
            exact ⟨fun w => w.imp id (fun w => ⟨(ri m hmN).mp q, w⟩), fun w => w.imp id (fun w => w.2)⟩
          · rw [fl_rb wa (by omega) (by omega) (by omega) (by omega), if_neg (by omega)]
        · rw [ri t ht]
          refine ⟨fun w => Or.inl w, fun w => w.elim id (fun w => ?_)⟩
          rw [(ri m hmN).mpr w.1] at q; cases q
  · refine pk_le (fc_N sz) i (fun z => absurd z (by omega)) (fun _ => ?_)
    have e3 : 2 * nI i + 1 = nI (2 * i + 1) := by rw [fn_2m]; exact nI_1 _
    rw [e3, fn_2m i, nI_clamp (by omega), nI_clamp (by omega)]
    refine ⟨vp_in_nI (by omega) (by omega), nm_e ⟨vp_in_nI (by omega) (by omega), nm_e ?_⟩⟩
    refine pk_loop (fun n' t wa => wY_close_29 post (wY_close_2 post (nI (fc_N sz)) n) (nI (fc_N sz)) (nI i) n' (nI t) kn te fl yk yl sz th fa ef go gu ye yd wa al yc tr fd ys) (fun t wa => (∀ s t, s < i → t < fc_N sz → (fl_h wa (2 * s) t = true ↔ fw_W (fc_N sz) (fc_st sz tk ln an) A 0 s t)) ∧ ∀ t', t' < 128 → (fl_h wa (2 * i) t' = true ↔ (t' < t ∧ fw_W (fc_N sz) (fc_st sz tk ln an) A 0 i t'))) (fc_N sz) 0 _ (by omega) ⟨fun s t hs ht => ?_, fun t' ht' => ?_⟩ (fun n' wa J => ?_) (fun n' t wa ht J k2 => ?_)
    · rw [fl_d0 wa (by omega) (by omega) (by omega), if_neg (by omega)]; exact I s t hs ht
    · rw [fl_d0 wa (by omega) (by omega) (by omega), if_pos rfl]
      exact ⟨fun z => absurd z (by decide), fun z => absurd z.1 (by omega)⟩
    · refine pk_le (fc_N sz) (fc_N sz) (fun _ => nm_r (nI_1 i) (k wa (fun s t hs ht => ?_))) (fun z => absurd z (by omega))
      by_cases e : s = i
      · subst e
        exact (J.2 t (by omega)).trans ⟨fun q => q.2, fun q => ⟨ht, q⟩⟩
      · exact J.1 s t (by omega) ht
    · obtain ⟨J1, J2⟩ := J
      refine pk_le (fc_N sz) t (fun z => absurd z (by omega)) (fun _ => ?_)
      have skip : ¬ fw_W (fc_N sz) (fc_st sz tk ln an) A 0 i t → wY_close_29 post (wY_close_2 post (nI (fc_N sz)) n) (nI (fc_N sz)) (nI i) n' (nI (t + 1)) kn te fl yk yl sz th fa ef go gu ye yd wa al yc tr fd ys := by
        intro q
        refine k2 wa ⟨J1, fun t' ht' => ?_⟩
        by_cases e : t' = t
        · subst e
          exact (J2 t' ht').trans ⟨fun w => absurd w.1 (by omega), fun w => absurd w.2 q⟩
        · exact (J2 t' ht').trans ⟨fun w => ⟨by omega, w.2⟩, fun w => ⟨by omega, w.2⟩⟩
      have put : fw_W (fc_N sz) (fc_st sz tk ln an) A 0 i t → wY_close_74 post (wY_close_2 post (nI (fc_N sz)) n) (wY_close_29 post (wY_close_2 post (nI (fc_N sz)) n) (nI (fc_N sz)) (nI i) n') (nI (fc_N sz)) (nI i) (nI t) kn te fl yk yl sz th fa ef go gu ye yd wa al yc tr fd ys := by
        intro w
        unfold wY_close_74
        rw [fn_2m i]
        refine fy_p_ways (by omega) (by omega) (nm_r (nI_1 t) (k2 (fl_put wa (2 * i) t) ⟨fun s t' hs ht' => ?_, fun t' ht' => ?_⟩))
        · rw [fl_hs wa (by omega) (by omega) (by omega) (by omega), decide_eq_false (by omega), Bool.or_false]; exact J1 s t' hs ht'
        · rw [fl_hs wa (by omega) (by omega) (by omega) (by omega), Bool.or_eq_true, decide_eq_true_iff, J2 t' ht']
          by_cases e : t' = t
          · subst e
            exact ⟨fun _ => ⟨by omega, w⟩, fun _ => Or.inr ⟨rfl, rfl⟩⟩
          · exact ⟨fun z => z.elim (fun z => ⟨by omega, z.2⟩) (fun z => absurd z.2 e), fun z => Or.inl ⟨by omega, z.2⟩⟩
      refine fy_h_alive (b := 0) (by omega) (by omega) (fun a => br_f (by decide) (fy_h_alive (b := 0) (by omega) (by omega) (fun b => br_f (by decide) (pk_eq i t (fun e => put ⟨hi, ht, (hA i hi).mp a, (hA t ht).mp b, Or.inl e⟩) (fun e => fy_sp hz Y G hi ht (fun w => br_f (by decide) (put ⟨hi, ht, (hA i hi).mp a, (hA t ht).mp b, Or.inr w⟩)) (fun w => br_t rfl (nm_r (nI_1 t) (skip (fun z => z.2.2.2.2.elim e w))))))) (fun b => br_t rfl (nm_r (nI_1 t) (skip (fun z => ?_)))))) (fun a => br_t rfl (nm_r (nI_1 t) (skip (fun z => ?_))))
      · rw [(hA t ht).mpr z.2.2.2.1] at b; cases b
      · rw [(hA i hi).mpr z.2.2.1] at a; cases a
theorem fy_tg {post : Int32 → Prop} {st : Nat → Nat → Prop} (hz : fc_Z sz) (hR : ∀ s t, s < fc_N sz → t < fc_N sz → (fl_h wa (2 * s) t = true ↔ fw_W (fc_N sz) st A (fc_N sz) s t)) {s t : Nat} (hs : s < fc_N sz) (ht : t < fc_N sz)
    (h1 : fw_g (fc_N sz) st A s t → post 1) (h0 : ¬ fw_g (fc_N sz) st A s t → post 0) : wpY_together post (kn, te, fl, yk, yl, sz, th, fa, ef, go, gu, ye, yd, wa, al, yc, tr, fd, ys) (nI s) (nI t) := by
  have hN := fc_N1 hz
  unfold wpY_together
  dsimp only
  rw [fn_2m s, fn_2m t]
  refine fy_h_ways (by omega) (by omega) (fun a => br_f (by decide) (fy_h_ways (by omega) (by omega) (fun b => br_f (by decide) (h1 ⟨(hR s t hs ht).mp a, (hR t s ht hs).mp b⟩)) (fun b => br_t rfl (h0 (fun z => ?_))))) (fun a => br_t rfl (h0 (fun z => ?_)))
  · rw [(hR t s ht hs).mpr z.2] at b; cases b
  · rw [(hR s t hs ht).mpr z.1] at a; cases a
theorem fy_tn {post : Int32 → Prop} {st : Nat → Nat → Prop} (hz : fc_Z sz) (Y : fy_S tk ln an yk yl th ef) (G : fy_G sz tk ln an go) (hR : ∀ s t, s < fc_N sz → t < fc_N sz → (fl_h wa (2 * s) t = true ↔ fw_W (fc_N sz) st A (fc_N sz) s t)) {a s : Nat} (ha : a < 4) (hs : s < fc_N sz)
    (h1 : (∃ x y, x < fc_N sz ∧ y < fc_N sz ∧ x ≠ y ∧ fc_M sz tk ln an a x y = true ∧ fw_g (fc_N sz) st A s x ∧ fw_g (fc_N sz) st A s y) → post 1)
    (h0 : (¬ ∃ x y, x < fc_N sz ∧ y < fc_N sz ∧ x ≠ y ∧ fc_M sz tk ln an a x y = true ∧ fw_g (fc_N sz) st A s x ∧ fw_g (fc_N sz) st A s y) → post 0) : wpY_taken post (kn, te, fl, yk, yl, sz, th, fa, ef, go, gu, ye, yd, wa, al, yc, tr, fd, ys) (nI a) (nI s) (nI (fc_N sz)) := by
  have hN := fc_N1 hz
  refine pk_loop (fun n i (_ : Unit) => wY_taken_3 post (nI a) (nI s) (nI (fc_N sz)) kn te fl yk yl sz th fa ef go gu ye yd wa al yc tr fd ys n (nI i)) (fun i _ => ∀ x y, x < i → y < fc_N sz → ¬ (x ≠ y ∧ fc_M sz tk ln an a x y = true ∧ fw_g (fc_N sz) st A s x ∧ fw_g (fc_N sz) st A s y)) (fc_N sz) 0 () (by omega) (fun x y hx => absurd hx (by omega)) (fun n _ I => ?_) (fun n x _ hx I k => ?_)
  · exact pk_le (fc_N sz) (fc_N sz) (fun _ => h0 (fun ⟨x, y, a1, a2, a3⟩ => I x y a1 a2 a3)) (fun z => absurd z (by omega))
  · refine pk_le (fc_N sz) x (fun z => absurd z (by omega)) (fun _ => ?_)
    refine pk_loop (fun n' i (_ : Unit) => wY_taken_12 post (wY_taken_3 post (nI a) (nI s) (nI (fc_N sz)) kn te fl yk yl sz th fa ef go gu ye yd wa al yc tr fd ys n) (nI a) (nI s) (nI (fc_N sz)) (nI x) kn te fl yk yl sz th fa ef go gu ye yd wa al yc tr fd ys n' (nI i)) (fun i _ => ∀ y, y < i → ¬ (x ≠ y ∧ fc_M sz tk ln an a x y = true ∧ fw_g (fc_N sz) st A s x ∧ fw_g (fc_N sz) st A s y)) (fc_N sz) 0 () (by omega) (fun y hy => absurd hy (by omega)) (fun n' _ J => ?_) (fun n' y _ hy J k2 => ?_)
    · refine pk_le (fc_N sz) (fc_N sz) (fun _ => nm_r (nI_1 x) (k () (fun x' y h1 h2 => ?_))) (fun z => absurd z (by omega))
      by_cases e : x' = x
      · rw [e]; exact J y h2
      · exact I x' y (by omega) h2
    · refine pk_le (fc_N sz) y (fun z => absurd z (by omega)) (fun _ => ?_)
      have skip : ¬ (x ≠ y ∧ fc_M sz tk ln an a x y = true ∧ fw_g (fc_N sz) st A s x ∧ fw_g (fc_N sz) st A s y) → wY_taken_12 post (wY_taken_3 post (nI a) (nI s) (nI (fc_N sz)) kn te fl yk yl sz th fa ef go gu ye yd wa al yc tr fd ys n) (nI a) (nI s) (nI (fc_N sz)) (nI x) kn te fl yk yl sz th fa ef go gu ye yd wa al yc tr fd ys n' (nI (y + 1)) := by
        intro q
        refine k2 () (fun y' hy' => ?_)
        by_cases e : y' = y
        · rw [e]; exact q
        · exact J y' (by omega)
      refine pk_eq x y (fun e => nm_r (nI_1 y) (skip (fun w => w.1 e))) (fun e => fy_gt hz Y G ha hx hy (fun m => br_f (by decide) (fy_tg hz hR hs hx (fun g1 => br_f (by decide) (fy_tg hz hR hs hy (fun g2 => br_f (by decide) (h1 ⟨x, y, hx, hy, e, m, g1, g2⟩)) (fun g2 => br_t rfl (nm_r (nI_1 y) (skip (fun w => g2 w.2.2.2)))))) (fun g1 => br_t rfl (nm_r (nI_1 y) (skip (fun w => g1 w.2.2.1)))))) (fun m => br_t rfl (nm_r (nI_1 y) (skip (fun w => ?_)))))
      rw [m] at w; exact absurd w.2.1 (by decide)
theorem ff_0 {ln fa : Nat → Int32} (Fa : fr_f fa) {a : Nat} (ha : a < 4) : ff_t ln fa a ≠ 0 ↔ (fc_L ln (3 + a) ≠ 0 ∧ fa a ≠ 0) := by
  unfold ff_t
  by_cases e : fc_L ln (3 + a) = 0
  · rw [if_pos e]
    exact ⟨fun z => absurd rfl z, fun z => absurd e z.1⟩
  · rw [if_neg e]
    rcases Fa a ha with q | q | q <;> rw [q]
    · exact ⟨fun z => absurd rfl z, fun z => absurd rfl z.2⟩
    · exact ⟨fun _ => ⟨e, by decide⟩, fun _ => by decide⟩
    · exact ⟨fun _ => ⟨e, by decide⟩, fun _ => by decide⟩
theorem fy_uf {post : Int32 → Prop} (hz : fc_Z sz) (Y : fy_S tk ln an yk yl th ef) (G : fy_G sz tk ln an go) (Fa : fr_f fa) (hE : ∀ s, s < fc_N sz → fb_4 (ye s) (fun a => fc_en sz tk ln an a s))
    (hR : ∀ s t, s < fc_N sz → t < fc_N sz → (fl_h wa (2 * s) t = true ↔ fw_W (fc_N sz) (fc_st sz tk ln an) A (fc_N sz) s t)) {s : Nat} (hs : s < fc_N sz)
    (h1 : fw_un (fc_N sz) (fc_st sz tk ln an) (fc_M sz tk ln an) (fc_en sz tk ln an) (ff_t ln fa) A s → post 1) (h0 : ¬ fw_un (fc_N sz) (fc_st sz tk ln an) (fc_M sz tk ln an) (fc_en sz tk ln an) (ff_t ln fa) A s → post 0) : wpY_unfair post (kn, te, fl, yk, yl, sz, th, fa, ef, go, gu, ye, yd, wa, al, yc, tr, fd, ys) (nI s) (nI (fc_N sz)) := by
  have hN := fc_N1 hz
  refine pk_loop (fun n i (_ : Unit) => wY_unfair_2 post (nI s) (nI (fc_N sz)) kn te fl yk yl sz th fa ef go gu ye yd wa al yc tr fd ys n (nI i)) (fun i _ => ∀ b, b < i → ¬ (ff_t ln fa b ≠ 0 ∧ fc_en sz tk ln an b s = true ∧ (ff_t ln fa b = 1 → ∀ t, t < fc_N sz → fw_g (fc_N sz) (fc_st sz tk ln an) A s t → fc_en sz tk ln an b t = true) ∧ ¬ ∃ x y, x < fc_N sz ∧ y < fc_N sz ∧ x ≠ y ∧ fc_M sz tk ln an b x y = true ∧ fw_g (fc_N sz) (fc_st sz tk ln an) A s x ∧ fw_g (fc_N sz) (fc_st sz tk ln an) A s y)) 4 0 () (by omega) (fun b hb => absurd hb (by omega)) (fun n _ I => ?_) (fun n a _ ha I k => ?_)
  · exact br_t (by decide) (h0 (fun ⟨b, hb, q⟩ => I b hb q))
  · refine pk_le 4 a (fun z => absurd z (by omega)) (fun _ => ?_)
    rw [nI_clamp (n := a) (by omega), nI_clamp (n := s) (by omega)]
    have skip : ¬ (ff_t ln fa a ≠ 0 ∧ fc_en sz tk ln an a s = true ∧ (ff_t ln fa a = 1 → ∀ t, t < fc_N sz → fw_g (fc_N sz) (fc_st sz tk ln an) A s t → fc_en sz tk ln an a t = true) ∧ ¬ ∃ x y, x < fc_N sz ∧ y < fc_N sz ∧ x ≠ y ∧ fc_M sz tk ln an a x y = true ∧ fw_g (fc_N sz) (fc_st sz tk ln an) A s x ∧ fw_g (fc_N sz) (fc_st sz tk ln an) A s y) → wY_unfair_2 post (nI s) (nI (fc_N sz)) kn te fl yk yl sz th fa ef go gu ye yd wa al yc tr fd ys n (nI (a + 1)) := by
      intro q
      refine k () (fun b hb => ?_)
      by_cases e : b = a
      · rw [e]; exact q
      · exact I b (by omega)
    have f0 := ff_0 (ln := ln) Fa ha
    have f1 := ff_1 (ln := ln) Fa ha
    have ee := fb_t0 (hE s hs) ha
    refine ⟨vp_in_nI ha (by omega), br_c (fun z => nm_r (nI_1 a) (skip (fun w => (f0.mp w.1).1 ((fy_th Y ha).mp z)))) (fun z => ⟨vp_in_nI ha (by omega), br_c (fun z2 => nm_r (nI_1 a) (skip (fun w => (f0.mp w.1).2 z2))) (fun z2 => ⟨vp_in_nI (by omega) (by omega), br_c (fun z3 => nm_r (nI_1 a) (skip (fun w => ?_))) (fun z3 => ?_)⟩)⟩)⟩
    · have := ee.mp z3
      rw [w.2.1] at this; cases this
    · have hL : fc_L ln (3 + a) ≠ 0 := fun w => z ((fy_th Y ha).mpr w)
      have ft0 : ff_t ln fa a ≠ 0 := f0.mpr ⟨hL, z2⟩
      have e1 : fc_en sz tk ln an a s = true := by
        cases q : fc_en sz tk ln an a s
        · exact absurd (ee.mpr q) z3
        · rfl
      have t96 : ∀ x : Int32, ((x = 0 ∧ ¬ (ff_t ln fa a = 1 → ∀ t, t < fc_N sz → fw_g (fc_N sz) (fc_st sz tk ln an) A s t → fc_en sz tk ln an a t = true)) ∨ (x = 1 ∧ (ff_t ln fa a = 1 → ∀ t, t < fc_N sz → fw_g (fc_N sz) (fc_st sz tk ln an) A s t → fc_en sz tk ln an a t = true))) → wY_unfair_96 post (wY_unfair_2 post (nI s) (nI (fc_N sz)) kn te fl yk yl sz th fa ef go gu ye yd wa al yc tr fd ys n) (nI s) (nI (fc_N sz)) (nI a) x kn te fl yk yl sz th fa ef go gu ye yd wa al yc tr fd ys := by
        rintro x (⟨rfl, q⟩ | ⟨rfl, q⟩)
        · exact br_t rfl (nm_r (nI_1 a) (skip (fun w => q w.2.2.1)))
        · exact br_f (by decide) (fy_tn hz Y G hR ha hs (fun w => br_f (by decide) (nm_r (nI_1 a) (skip (fun v => v.2.2.2 w)))) (fun w => br_t rfl (h1 ⟨a, ha, ft0, e1, q, w⟩)))
      by_cases q1 : fa a = 1
      · refine pk_loop (fun n' t x => wY_unfair_47 post (wY_unfair_2 post (nI s) (nI (fc_N sz)) kn te fl yk yl sz th fa ef go gu ye yd wa al yc tr fd ys n) (nI s) (nI (fc_N sz)) (nI a) kn te fl yk yl sz th fa ef go gu ye yd wa al yc tr fd ys n' x (nI t)) (fun t x => (x = 0 ∧ ∃ t', t' < fc_N sz ∧ fw_g (fc_N sz) (fc_st sz tk ln an) A s t' ∧ ¬ fc_en sz tk ln an a t' = true) ∨ (x = 1 ∧ ∀ t', t' < t → fw_g (fc_N sz) (fc_st sz tk ln an) A s t' → fc_en sz tk ln an a t' = true)) (fc_N sz) 0 1 (by omega) (Or.inr ⟨rfl, fun t' h => absurd h (by omega)⟩) (fun n' x J => ?_) (fun n' t x ht J k2 => ?_)
        · refine pk_le (fc_N sz) (fc_N sz) (fun _ => t96 x ?_) (fun z => absurd z (by omega))
          exact J.imp (fun ⟨e, t', a1, a2, a3⟩ => ⟨e, fun w => a3 (w (f1.mpr ⟨hL, q1⟩) t' a1 a2)⟩) (fun ⟨e, w⟩ => ⟨e, fun _ => w⟩)
        · refine pk_le (fc_N sz) t (fun z => absurd z (by omega)) (fun _ => ?_)
          rw [nI_clamp (n := a) (by omega), nI_clamp (n := t) (by omega)]
          have et := fb_t0 (hE t ht) ha
          have same : (fw_g (fc_N sz) (fc_st sz tk ln an) A s t → fc_en sz tk ln an a t = true) → wY_unfair_47 post (wY_unfair_2 post (nI s) (nI (fc_N sz)) kn te fl yk yl sz th fa ef go gu ye yd wa al yc tr fd ys n) (nI s) (nI (fc_N sz)) (nI a) kn te fl yk yl sz th fa ef go gu ye yd wa al yc tr fd ys n' x (nI (t + 1)) := by
            intro q
            refine k2 x (J.imp id (fun ⟨e, w⟩ => ⟨e, fun t' ht' g => ?_⟩))
            by_cases e2 : t' = t
            · subst e2; exact q g
            · exact w t' (by omega) g
          refine ⟨vp_in_nI ha (by omega), br_t q1 (fy_tg hz hR hs ht (fun g => br_f (by decide) ⟨vp_in_nI (by omega) (by omega), br_c (fun q => nm_r (nI_1 t) (k2 0 (Or.inl ⟨rfl, t, ht, g, ?_⟩))) (fun q => nm_r (nI_1 t) (same (fun _ => ?_)))⟩) (fun g => br_t rfl (nm_r (nI_1 t) (same (fun w => absurd w g)))))⟩
          · rw [et.mp q]; decide
          · cases w : fc_en sz tk ln an a t
            · exact absurd (et.mpr w) q
            · rfl
      · refine ⟨1, ?_⟩
        refine pk_le (fc_N sz) 0 (fun z => absurd z (by omega)) (fun _ => ?_)
        rw [nI_clamp (n := a) (by omega)]
        exact ⟨vp_in_nI ha (by omega), br_f q1 (t96 1 (Or.inr ⟨rfl, fun w => absurd (f1.mp w).2 q1⟩))⟩
end FYC
