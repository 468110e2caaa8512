section FYR
variable {kn te fl : Int32} {yk yl sz th fa ef : Nat → Int32} {go : Nat → Int64} {gu ye yd : Nat → Int32} {wa al yc : Nat → Int64} {tr fd ys : Nat → Int32} {tk ln an : Nat → Int32} {I0 : Nat → Prop} {Br : Nat → Prop}
theorem fg_Am {N : Nat} {st : Nat → Nat → Prop} {en k s : Nat} (f : ¬ fg_F N I0 st k s) : fg_A N I0 st Br en k s ↔ fg_A N I0 st Br en (k + 1) s := by
  constructor
  · intro ⟨j, hj, h⟩
    refine ⟨j, ?_, h⟩
    rcases Nat.lt_or_ge (j + k) en with z | z
    · omega
    · have := fg_wF h
      rw [show en - j = k by omega] at this
      exact absurd this f
  · intro ⟨j, hj, h⟩; exact ⟨j, by omega, h⟩
theorem fg_Ao {N : Nat} {st : Nat → Nat → Prop} {en k s : Nat} (f : fg_F N I0 st k s) : ¬ fg_A N I0 st Br en (k + 1) s := by
  intro ⟨j, hj, h⟩
  have := fg_Fu (fg_wF h) f
  omega
theorem fl_c0 (a : Nat → Int64) : ∀ t, t < 128 → fl_h (vp_updL (vp_updL a 0 0) 1 0) 0 t = false := by
  intro t ht
  unfold fl_h
  rw [Nat.zero_add]
  rcases (show t / 64 = 0 ∨ t / 64 = 1 by omega) with e | e
  · rw [e, pk_uLn (by omega), pk_uLs, fl_0]
  · rw [e, pk_uLs, fl_0]
theorem fy_ca {post : SY → Prop} (h : ∀ al', (∀ t, t < 128 → fl_h al' 0 t = false) → post (kn, te, fl, yk, yl, sz, th, fa, ef, go, gu, ye, yd, wa, al', yc, tr, fd, ys)) : wpY_clear__alive post (kn, te, fl, yk, yl, sz, th, fa, ef, go, gu, ye, yd, wa, al, yc, tr, fd, ys) :=
  nm_e (nm_e (h _ (fl_c0 al)))
theorem fy_cc {post : SY → Prop} (h : ∀ yc', (∀ t, t < 128 → fl_h yc' 0 t = false) → post (kn, te, fl, yk, yl, sz, th, fa, ef, go, gu, ye, yd, wa, al, yc', tr, fd, ys)) : wpY_clear__calm post (kn, te, fl, yk, yl, sz, th, fa, ef, go, gu, ye, yd, wa, al, yc, tr, fd, ys) :=
  nm_e (nm_e (h _ (fl_c0 yc)))
theorem fy_tr {post : SY → Prop} (hz : fc_Z sz) (Y : fy_S tk ln an yk yl th ef) (G : fy_G sz tk ln an go) (hD : fg_D (fc_N sz) I0 (fc_st sz tk ln an) yd) {d : Nat} (hd : d < 125) (hA : ∀ s, s < fc_N sz → (fl_h al 0 s = true ↔ fg_A (fc_N sz) I0 (fc_st sz tk ln an) Br d 0 s)) (hx : ∃ s, fg_F (fc_N sz) I0 (fc_st sz tk ln an) d s ∧ Br s)
    (hp : ∀ tr' T, fi_T (fc_N sz) I0 (fc_st sz tk ln an) Br d d tr' T → post (kn, te, fl, yk, yl, sz, th, fa, ef, go, gu, ye, yd, wa, al, yc, tr', fd, ys)) : ∃ n, wY_row_162 post (nI d) kn te fl n 0 yk yl sz th fa ef go gu ye yd wa al yc tr fd ys := by
  have hN := fc_N1 hz
  refine pk_loop (fun n i tr => wY_row_162 post (nI d) kn te fl n (nI i) yk yl sz th fa ef go gu ye yd wa al yc tr fd ys) (fun i tr => i = 0 ∨ ∃ m, i = m + 1 ∧ ∃ T, fi_T (fc_N sz) I0 (fc_st sz tk ln an) Br d m tr T) (d + 1) 0 tr (by omega) (Or.inl rfl) (fun n tr L => ?_) (fun n i tr hi L k => ?_)
  · rcases L with e | ⟨m, e, T, hT⟩
    · omega
    · obtain rfl : m = d := by omega
      exact pk_lt m (m + 1) (fun _ => hp tr T hT) (fun z => absurd z (by omega))
  · refine pk_lt d i (fun z => absurd z (by omega)) (fun _ => ?_)
    rcases L with rfl | ⟨m, rfl, T, hT⟩
    · have ex : ∃ t, fg_F (fc_N sz) I0 (fc_st sz tk ln an) 0 t ∧ fg_A (fc_N sz) I0 (fc_st sz tk ln an) Br d 0 t := by
        obtain ⟨s, hs⟩ := fg_wx hx d (Nat.le_refl _)
        have f := fg_wF hs
        rw [Nat.sub_self] at f
        exact ⟨s, f, d, by omega, hs⟩
      obtain ⟨t, ht, hl⟩ := pk_least _ ex
      have htN := fg_Flt ht.1
      refine pk_loop (fun n' i (_ : Unit) => wY_row_170 post (wY_row_162 post (nI d) kn te fl n) (nI d) 0 kn te fl yk yl sz th fa ef go gu ye yd wa al yc tr fd ys n' (nI i)) (fun i _ => True) t 0 () (by omega) trivial (fun n' _ _ => ?_) (fun n' i _ hi _ k2 => ?_)
      · refine ⟨vp_in_nI (by omega) (by omega), ?_⟩
        rw [nI_clamp (by omega)]
        have e0 : yd t = 0 := (fg_Dd (d := 0) (by omega) hD htN (by omega)).mpr ht.1
        refine br_t e0 (fy_h_alive (b := 0) (by omega) (by omega) (fun _ => br_f (by decide) (br_t (by decide) ⟨vp_in_nI (n := 0) (by omega) (by omega), nm_e (nm_r (nI_1 0) (k _ (Or.inr ⟨0, rfl, (fun _ => t), fi_T0 ⟨ht, hl⟩⟩)))⟩)) (fun q => ?_))
        rw [(hA t htN).mpr ht.2] at q; cases q
      · refine ⟨vp_in_nI (by omega) (by omega), ?_⟩
        rw [nI_clamp (by omega)]
        refine br_c (fun e => fy_h_alive (b := 0) (by omega) (by omega) (fun q => ?_) (fun q => br_t rfl (nm_r (nI_1 i) (k2 () trivial)))) (fun e => nm_r (nI_1 i) (k2 () trivial))
        exact absurd ⟨(fg_Dd (d := 0) (by omega) hD (by omega) (by omega)).mp e, (hA i (by omega)).mp q⟩ (hl i hi)
    · obtain ⟨t0, ht0, hq0⟩ := fi_nx (by omega) hT
      obtain ⟨t, ht, hl⟩ := pk_least (fun t => fg_F (fc_N sz) I0 (fc_st sz tk ln an) (m + 1) t ∧ fg_A (fc_N sz) I0 (fc_st sz tk ln an) Br d 0 t ∧ fc_st sz tk ln an (T m) t) ⟨t0, hq0⟩
      have htN := fg_Flt ht.1
      have hTm := hT.2 m (Nat.le_refl _)
      have hpm : nI (m + 1) - 1 = nI m := nI_pred m
      refine pk_loop (fun n' i (_ : Unit) => wY_row_170 post (wY_row_162 post (nI d) kn te fl n) (nI d) (nI (m + 1)) kn te fl yk yl sz th fa ef go gu ye yd wa al yc tr fd ys n' (nI i)) (fun i _ => True) t 0 () (by omega) trivial (fun n' _ _ => ?_) (fun n' i _ hi _ k2 => ?_)
      · refine ⟨vp_in_nI (by omega) (by omega), ?_⟩
        rw [nI_clamp (n := t) (by omega), nI_clamp (n := m + 1) (by omega), hpm, nI_clamp (n := m) (by omega), hTm.2]
        have e0 : yd t = nI (m + 1) := (fg_Dd (by omega) hD htN (by omega)).mpr ht.1
        refine br_t e0 (fy_h_alive (b := 0) (by omega) (by omega) (fun _ => br_f (by decide) (pk_le (m + 1) 0 (fun z => absurd z (by omega)) (fun _ => ⟨vp_in_nI (by omega) (by omega), fy_sp hz Y G hTm.1 htN (fun _ => br_f (by decide) ⟨vp_in_nI (by omega) (by omega), nm_e (nm_r (nI_1 (m + 1)) (k _ (Or.inr ⟨m + 1, rfl, _, fi_Ts hT ⟨ht, hl⟩⟩)))⟩) (fun q => absurd ht.2.2 q)⟩))) (fun q => ?_))
        rw [(hA t htN).mpr ht.2.1] at q; cases q
      · refine ⟨vp_in_nI (by omega) (by omega), ?_⟩
        rw [nI_clamp (n := i) (by omega), nI_clamp (n := m + 1) (by omega), hpm, nI_clamp (n := m) (by omega), hTm.2]
        refine br_c (fun e => fy_h_alive (b := 0) (by omega) (by omega) (fun q => br_f (by decide) (pk_le (m + 1) 0 (fun z => absurd z (by omega)) (fun _ => ⟨vp_in_nI (by omega) (by omega), fy_sp hz Y G hTm.1 (by omega) (fun w => ?_) (fun _ => br_t rfl (nm_r (nI_1 i) (k2 () trivial)))⟩))) (fun q => br_t rfl (nm_r (nI_1 i) (k2 () trivial)))) (fun e => nm_r (nI_1 i) (k2 () trivial))
        exact absurd ⟨(fg_Dd (by omega) hD (by omega) (by omega)).mp e, (hA i (by omega)).mp q, w⟩ (hl i hi)
theorem fy_rw {post : SY → Prop} (hz : fc_Z sz) (Y : fy_S tk ln an yk yl th ef) (G : fy_G sz tk ln an go) (hD : fg_D (fc_N sz) I0 (fc_st sz tk ln an) yd) (ok : fc_ok yk yl 0) {d : Nat} (hd : d < 125) (hBr : ∀ s, Br s ↔ fc_w sz yk yl 0 s = 0) (hx : ∃ s, fg_F (fc_N sz) I0 (fc_st sz tk ln an) d s ∧ Br s)
    (hp : ∀ ys' al' tr' T, fi_T (fc_N sz) I0 (fc_st sz tk ln an) Br d d tr' T → post (kn, nI d, fl, yk, yl, sz, th, fa, ef, go, gu, ye, yd, wa, al', yc, tr', fd, ys')) : wpY_row post (kn, te, fl, yk, yl, sz, th, fa, ef, go, gu, ye, yd, wa, al, yc, tr, fd, ys) (nI d) (nI (fc_N sz)) := by
  have hN := fc_N1 hz
  unfold wpY_row
  refine fy_ca (fun al' hal => ?_)
  have e1 : ∀ n, wY_row_10 post (nI d) (nI (fc_N sz)) n (nI (d + 1) + (-1)) kn te fl yk yl sz th fa ef go gu ye yd wa al' yc tr fd ys → wY_row_10 post (nI d) (nI (fc_N sz)) n (nI d) kn te fl yk yl sz th fa ef go gu ye yd wa al' yc tr fd ys := by
    intro n h; rw [pk_m1] at h; exact h
  refine ⟨d + 1 + 1, e1 _ (pk_loopD (fun n k (p : (Nat → Int32) × (Nat → Int64)) => wY_row_10 post (nI d) (nI (fc_N sz)) n (nI k + (-1)) kn te fl yk yl sz th fa ef go gu ye yd wa p.2 yc tr fd p.1) (fun k p => k ≤ d + 1 ∧ ∀ s, s < fc_N sz → (fl_h p.2 0 s = true ↔ fg_A (fc_N sz) I0 (fc_st sz tk ln an) Br d k s)) (fun n p J => ?_) (fun n k p J kk => ?_) (d + 1) (ys, al') ⟨Nat.le_refl _, fun s hs => ?_⟩)⟩
  · obtain ⟨ys, al⟩ := p
    exact br_t (by decide) (fy_tr hz Y G hD hd J.2 hx (fun tr' T hT => hp ys al tr' T hT))
  · obtain ⟨ys, al⟩ := p
    obtain ⟨J1, J2⟩ := J
    rw [pk_m1]
    refine br_f (nI_pos (by omega)) ?_
    refine pk_loop (fun n' i (p : (Nat → Int32) × (Nat → Int64)) => wY_row_17 post (wY_row_10 post (nI d) (nI (fc_N sz)) n) (nI d) (nI (fc_N sz)) (nI k) n' (nI i) kn te fl yk yl sz th fa ef go gu ye yd wa p.2 yc tr fd p.1) (fun i p => ∀ s, s < fc_N sz → (fl_h p.2 0 s = true ↔ ((s < i ∧ fg_A (fc_N sz) I0 (fc_st sz tk ln an) Br d k s) ∨ (i ≤ s ∧ fg_A (fc_N sz) I0 (fc_st sz tk ln an) Br d (k + 1) s)))) (fc_N sz) 0 (ys, al) (by omega) (fun s hs => ?_) (fun n' p L => ?_) (fun n' i p hi L k2 => ?_)
    · exact (J2 s hs).trans ⟨fun q => Or.inr ⟨by omega, q⟩, fun q => q.elim (fun w => absurd w.1 (by omega)) (fun w => w.2)⟩
    · obtain ⟨ys, al⟩ := p
      refine pk_le (fc_N sz) (fc_N sz) (fun _ => nm_e (kk (ys, al) ⟨by omega, fun s hs => ?_⟩)) (fun z => absurd z (by omega))
      exact (L s hs).trans ⟨fun q => q.elim (fun w => w.2) (fun w => absurd w.1 (by omega)), fun q => Or.inl ⟨hs, q⟩⟩
    · obtain ⟨ys, al⟩ := p
      have L : ∀ s, s < fc_N sz → (fl_h al 0 s = true ↔ ((s < i ∧ fg_A (fc_N sz) I0 (fc_st sz tk ln an) Br d k s) ∨ (i ≤ s ∧ fg_A (fc_N sz) I0 (fc_st sz tk ln an) Br d (k + 1) s))) := L
      have hF := fg_Dd (d := k) (s := i) (by omega) hD hi (by omega)
      refine pk_le (fc_N sz) i (fun z => absurd z (by omega)) (fun _ => ?_)
      rw [nI_clamp (by omega)]
      have stay : (fg_A (fc_N sz) I0 (fc_st sz tk ln an) Br d k i ↔ fg_A (fc_N sz) I0 (fc_st sz tk ln an) Br d (k + 1) i) → ∀ s, s < fc_N sz → (fl_h al 0 s = true ↔ ((s < i + 1 ∧ fg_A (fc_N sz) I0 (fc_st sz tk ln an) Br d k s) ∨ (i + 1 ≤ s ∧ fg_A (fc_N sz) I0 (fc_st sz tk ln an) Br d (k + 1) s))) := by
        intro h s hs
        by_cases e : s = i
        · subst e
          exact (L s hs).trans ⟨fun q => q.elim (fun w => absurd w.1 (by omega)) (fun w => Or.inl ⟨by omega, h.mpr w.2⟩), fun q => q.elim (fun w => Or.inr ⟨by omega, h.mp w.2⟩) (fun w => absurd w.1 (by omega))⟩
        · exact (L s hs).trans ⟨fun q => q.imp (fun w => ⟨by omega, w.2⟩) (fun w => ⟨by omega, w.2⟩), fun q => q.imp (fun w => ⟨by omega, w.2⟩) (fun w => ⟨by omega, w.2⟩)⟩
      refine ⟨vp_in_nI (by omega) (by omega), br_c (fun e => ?_) (fun e => nm_r (nI_1 i) (k2 (ys, al) (stay (fg_Am (fun w => e (hF.mpr w))))))⟩
      have f := hF.mp e
      have fin0 : ∀ ys, ¬ fg_A (fc_N sz) I0 (fc_st sz tk ln an) Br d k i → wY_row_127 post (wY_row_10 post (nI d) (nI (fc_N sz)) n) (wY_row_17 post (wY_row_10 post (nI d) (nI (fc_N sz)) n) (nI d) (nI (fc_N sz)) (nI k) n') (nI d) (nI (fc_N sz)) (nI k) (nI i) 0 kn te fl yk yl sz th fa ef go gu ye yd wa al yc tr fd ys := by
        intro ys h
        exact br_t rfl (nm_r (nI_1 i) (k2 (ys, al) (stay ⟨fun w => absurd w h, fun w => absurd w (fg_Ao f)⟩)))
      have fin1 : ∀ ys, fg_A (fc_N sz) I0 (fc_st sz tk ln an) Br d k i → wY_row_127 post (wY_row_10 post (nI d) (nI (fc_N sz)) n) (wY_row_17 post (wY_row_10 post (nI d) (nI (fc_N sz)) n) (nI d) (nI (fc_N sz)) (nI k) n') (nI d) (nI (fc_N sz)) (nI k) (nI i) 1 kn te fl yk yl sz th fa ef go gu ye yd wa al yc tr fd ys := by
        intro ys h
        refine br_f (by decide) (fy_p_alive (b := 0) (by omega) (by omega) (nm_r (nI_1 i) (k2 (ys, _) (fun s hs => ?_))))
        show fl_h (fl_put al 0 i) 0 s = true ↔ _
        rw [fl_hs al (by omega) (by omega) (by omega) (by omega), Bool.or_eq_true, decide_eq_true_iff, L s hs]
        by_cases q : s = i
        · subst q
          exact ⟨fun _ => Or.inl ⟨by omega, h⟩, fun _ => Or.inr ⟨rfl, rfl⟩⟩
        · exact ⟨fun w => w.elim (fun w => w.imp (fun w => ⟨by omega, w.2⟩) (fun w => ⟨by omega, w.2⟩)) (fun w => absurd w.2 q), fun w => Or.inl (w.imp (fun w => ⟨by omega, w.2⟩) (fun w => ⟨by omega, w.2⟩))⟩
      refine pk_eq k d (fun ek => ?_) (fun ek => ?_)
      · subst ek
        refine fy_wk (j := 0) hz (by omega) hi ok (fun ys' => br_c (fun b => ⟨1, ?_⟩) (fun b => ⟨1, ?_⟩))
        · exact pk_le (fc_N sz) 0 (fun z => absurd z (by omega)) (fun _ => pk_le k k (fun _ => fin1 ys' (fg_Ae.mpr ⟨f, (hBr i).mpr b⟩)) (fun z => absurd z (by omega)))
        · exact pk_le (fc_N sz) 0 (fun z => absurd z (by omega)) (fun _ => pk_le k k (fun _ => fin0 ys' (fun w => b ((hBr i).mp (fg_Ae.mp w).2))) (fun z => absurd z (by omega)))
      · have key : ∀ t, t < fc_N sz → fg_F (fc_N sz) I0 (fc_st sz tk ln an) (k + 1) t → (fl_h al 0 t = true ↔ fg_A (fc_N sz) I0 (fc_st sz tk ln an) Br d (k + 1) t) := by
          intro t ht ft
          have hnk : ¬ fg_F (fc_N sz) I0 (fc_st sz tk ln an) k t := fun w => by have := fg_Fu ft w; omega
          rw [L t ht]
          constructor
          · rintro (w | w)
            · exact (fg_Am hnk).mp w.2
            · exact w.2
          · intro w
            by_cases q : t < i
            · exact Or.inl ⟨q, (fg_Am hnk).mpr w⟩
            · exact Or.inr ⟨by omega, w⟩
        refine pk_loop (fun n'' t x => wY_row_62 post (wY_row_10 post (nI d) (nI (fc_N sz)) n) (wY_row_17 post (wY_row_10 post (nI d) (nI (fc_N sz)) n) (nI d) (nI (fc_N sz)) (nI k) n') (nI d) (nI (fc_N sz)) (nI k) (nI i) kn te fl yk yl sz th fa ef go gu ye yd wa al yc tr fd ys n'' x (nI t)) (fun t x => (x = 0 ∧ ∀ t', t' < t → ¬ (fg_F (fc_N sz) I0 (fc_st sz tk ln an) (k + 1) t' ∧ fg_A (fc_N sz) I0 (fc_st sz tk ln an) Br d (k + 1) t' ∧ fc_st sz tk ln an i t')) ∨ (x = 1 ∧ ∃ t', t' < t ∧ (fg_F (fc_N sz) I0 (fc_st sz tk ln an) (k + 1) t' ∧ fg_A (fc_N sz) I0 (fc_st sz tk ln an) Br d (k + 1) t' ∧ fc_st sz tk ln an i t'))) (fc_N sz) 0 0 (by omega) (Or.inl ⟨rfl, fun t' h => absurd h (by omega)⟩) (fun n'' x Q => ?_) (fun n'' t x ht Q k3 => ?_)
        · refine pk_le (fc_N sz) (fc_N sz) (fun _ => ?_) (fun z => absurd z (by omega))
          rcases Q with ⟨rfl, Q⟩ | ⟨rfl, t, ht, Q⟩
          · refine fin0 ys (fun w => ?_)
            obtain ⟨t, ht, q⟩ := (fg_Ak (by omega) f).mp w
            exact Q t ht q
          · exact fin1 ys ((fg_Ak (by omega) f).mpr ⟨t, ht, Q⟩)
        · have no : ¬ (fg_F (fc_N sz) I0 (fc_st sz tk ln an) (k + 1) t ∧ fg_A (fc_N sz) I0 (fc_st sz tk ln an) Br d (k + 1) t ∧ fc_st sz tk ln an i t) → wY_row_62 post (wY_row_10 post (nI d) (nI (fc_N sz)) n) (wY_row_17 post (wY_row_10 post (nI d) (nI (fc_N sz)) n) (nI d) (nI (fc_N sz)) (nI k) n') (nI d) (nI (fc_N sz)) (nI k) (nI i) kn te fl yk yl sz th fa ef go gu ye yd wa al yc tr fd ys n'' (x ||| 0) (nI (t + 1)) := by
            intro h
            refine k3 _ ?_
            rcases Q with ⟨rfl, Q⟩ | ⟨rfl, t', ht', Q⟩
            · refine Or.inl ⟨by decide, fun t' ht' => ?_⟩
              by_cases q : t' = t
              · rw [q]; exact h
              · exact Q t' (by omega)
            · exact Or.inr ⟨by decide, t', by omega, Q⟩
          refine pk_le (fc_N sz) t (fun z => absurd z (by omega)) (fun _ => pk_le d k (fun z => absurd z (by omega)) (fun _ => ?_))
          rw [nI_clamp (by omega), nI_1 k]
          have hFt := fg_Dd (d := k + 1) (s := t) (by omega) hD ht (by omega)
          refine ⟨vp_in_nI (by omega) (by omega), br_c (fun e2 => fy_h_alive (b := 0) (by omega) (by omega) (fun q => br_f (by decide) (fy_sp hz Y G hi ht (fun w => br_f (by decide) ?_) (fun w => br_t rfl (nm_e (nm_r (nI_1 t) (no (fun z => w z.2.2))))))) (fun q => br_t rfl (nm_e (nm_r (nI_1 t) (no (fun z => ?_)))))) (fun e2 => nm_e (nm_r (nI_1 t) (no (fun z => e2 (hFt.mpr z.1)))))⟩
          · have ft := hFt.mp e2
            refine nm_e (nm_r (nI_1 t) (k3 _ (Or.inr ⟨?_, t, by omega, ft, (key t ht ft).mp q, w⟩)))
            rcases Q with ⟨rfl, _⟩ | ⟨rfl, _⟩ <;> decide
          · rw [(key t ht z.1).mpr z.2.1] at q; cases q
  · show fl_h al' 0 s = true ↔ _
    rw [hal s (by omega)]
    exact ⟨fun z => absurd z (by decide), fun ⟨j, hj, _⟩ => absurd hj (by omega)⟩
end FYR
