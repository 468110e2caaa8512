section FXC
variable {tl fc : Int32} {sz tk ln an fa sk lw hg mv en dp ca rc : Nat → Int32} {re : Nat → Int64} {ho ae ta ow ts fs : Nat → Int32} {st : Nat → Nat → Prop} {A : Nat → Prop}
def fl_ro (a : Nat → Int64) (b c : Nat) : Nat → Int64 := vp_updL (vp_updL a b (a b ||| a c)) (b + 1) (vp_updL a b (a b ||| a c) (b + 1) ||| vp_updL a b (a b ||| a c) (c + 1))
theorem fl_rb (a : Nat → Int64) {b c b' t : Nat} (hb : b % 2 = 0) (hc : c % 2 = 0) (hb' : b' % 2 = 0) (ht : t < 128) : fl_h (fl_ro a b c) b' t = if b' = b then (fl_h a b t || fl_h a c t) else fl_h a b' t := by
  unfold fl_h fl_ro
  by_cases e : b' = b
  · rw [if_pos e, e]
    rcases (show t / 64 = 0 ∨ t / 64 = 1 by omega) with q | q
    · rw [show b + t / 64 = b by omega, show c + t / 64 = c by omega, pk_uLn (by omega), pk_uLs, fl_or]
    · rw [q, pk_uLs, pk_uLn (by omega), pk_uLn (by omega), fl_or]
  · rw [if_neg e, pk_uLn (by omega), pk_uLn (by omega)]
theorem fw_mm {N m t : Nat} : fw_W N st A (m + 1) m t ↔ fw_W N st A m m t := ⟨fun h => h.elim id (fun q => q.2), fun h => Or.inl h⟩
theorem fl_d0 (a : Nat → Int64) {b b' t : Nat} (hb : b % 2 = 0) (hb' : b' % 2 = 0) (ht : t < 128) : fl_h (vp_updL (vp_updL a b 0) (b + 1) 0) b' t = if b' = b then false else fl_h a b' t := by
  unfold fl_h
  by_cases e : b' = b
  · rw [if_pos e, e]
    rcases (show t / 64 = 0 ∨ t / 64 = 1 by omega) with q | q
    · rw [show b + t / 64 = b by omega, pk_uLn (by omega), pk_uLs, fl_0]
    · rw [q, pk_uLs, fl_0]
  · rw [if_neg e, pk_uLn (by omega), pk_uLn (by omega)]
theorem fx_re {post : Int32 → Prop} {s t : Nat} (hs : s < 125) (ht : t < 128) (h1 : fl_h re (s * 2) t = true → post 1) (h0 : fl_h re (s * 2) t = false → post 0) : wpX_reaches post (tl, fc, sz, tk, ln, an, fa, sk, lw, hg, mv, en, dp, ca, rc, re, ho, ae, ta, ow, ts, fs) (nI s) (nI t) := by
  unfold wpX_reaches
  dsimp only
  rw [show nI s * 2 = nI (s * 2) from by rw [← pk_mul]; rfl, fl_i (by omega), fl_r (by omega), nI_clamp (by omega)]
  refine ⟨fl_64, vp_in_nI (by omega) (by omega), fl_64, br_c (fun z => h1 ?_) (fun z => h0 ?_)⟩
  · exact (fl_ur _ (by omega)).mp z
  · cases q : fl_h re (s * 2) t
    · rfl
    · exact absurd ((fl_ur _ (by omega)).mpr q) z
theorem fx_c_recurring {post : SX → Prop} (hz : fc_Z sz) (hm : ∀ s t, s < fc_N sz → t < fc_N sz → s ≠ t → (mv (s * 125 + t) = 0 ↔ ¬ st s t)) (hA : fi_ow rc (fc_N sz) A)
    (hp : ∀ re', (∀ s t, s < fc_N sz → t < fc_N sz → (fl_h re' (s * 2) t = true ↔ fw_W (fc_N sz) st A (fc_N sz) s t)) → post (tl, fc, sz, tk, ln, an, fa, sk, lw, hg, mv, en, dp, ca, rc, re', ho, ae, ta, ow, ts, fs)) : wpX_closeSteps__recurring post (tl, fc, sz, tk, ln, an, fa, sk, lw, hg, mv, en, dp, ca, rc, re, ho, ae, ta, ow, ts, fs) := by
  have hN := fc_N1 hz
  unfold wpX_closeSteps__recurring
  refine fx_ns hz ?_
  refine pk_loop (fun n i re => wX_closeSteps__recurring_7 post (nI (fc_N sz)) tl fc n (nI i) sz tk ln an fa sk lw hg mv en dp ca rc re ho ae ta ow ts fs) (fun i re => ∀ s t, s < i → t < fc_N sz → (fl_h re (s * 2) t = true ↔ fw_W (fc_N sz) st A 0 s t)) (fc_N sz) 0 re (by omega) (fun s t hs => absurd hs (by omega)) (fun n re I => ?_) (fun n i re hi I k => ?_)
  · refine pk_le (fc_N sz) (fc_N sz) (fun _ => ?_) (fun z => absurd z (by omega))
    refine pk_loop (fun n m re => wX_closeSteps__recurring_125 post (nI (fc_N sz)) tl fc n (nI m) sz tk ln an fa sk lw hg mv en dp ca rc re ho ae ta ow ts fs) (fun m re => ∀ s t, s < fc_N sz → t < fc_N sz → (fl_h re (s * 2) t = true ↔ fw_W (fc_N sz) st A m s t)) (fc_N sz) 0 re (by omega) I (fun n re J => ?_) (fun n m re hmN J k => ?_)
    · exact pk_le (fc_N sz) (fc_N sz) (fun _ => hp re J) (fun z => absurd z (by omega))
    · refine pk_le (fc_N sz) m (fun z => absurd z (by omega)) (fun _ => ?_)
      refine pk_loop (fun n' i re => wX_closeSteps__recurring_133 post (wX_closeSteps__recurring_125 post (nI (fc_N sz)) tl fc n) (nI (fc_N sz)) (nI m) tl fc n' (nI i) sz tk ln an fa sk lw hg mv en dp ca rc re ho ae ta ow ts fs) (fun i re => ∀ s t, s < fc_N sz → t < fc_N sz → (fl_h re (s * 2) t = true ↔ ((s < i ∧ fw_W (fc_N sz) st A (m + 1) s t) ∨ (i ≤ s ∧ fw_W (fc_N sz) st A m s t)))) (fc_N sz) 0 re (by omega) (fun s t hs ht => ?_) (fun n' re L => ?_) (fun n' i re hi L k2 => ?_)
      · exact (J s t hs ht).trans ⟨fun q => Or.inr ⟨by omega, q⟩, fun q => q.elim (fun w => absurd w.1 (by omega)) (fun w => w.2)⟩
      · refine pk_le (fc_N sz) (fc_N sz) (fun _ => nm_r (nI_1 m) (k re (fun s t hs ht => ?_))) (fun z => absurd z (by omega))
        exact (L s t hs ht).trans ⟨fun q => q.elim (fun w => w.2) (fun w => absurd w.1 (by omega)), fun q => Or.inl ⟨hs, q⟩⟩
      · refine pk_le (fc_N sz) i (fun z => absurd z (by omega)) (fun _ => ?_)
        have rm : ∀ t, t < fc_N sz → (fl_h re (m * 2) t = true ↔ fw_W (fc_N sz) st A m m t) := by
          intro t ht
          rw [L m t hmN ht]
          exact ⟨fun q => q.elim (fun w => fw_mm.mp w.2) (fun w => w.2), fun q => if h : m < i then Or.inl ⟨h, fw_mm.mpr q⟩ else Or.inr ⟨by omega, q⟩⟩
        have ri : ∀ t, t < fc_N sz → (fl_h re (i * 2) t = true ↔ fw_W (fc_N sz) st A m i t) := by
          intro t ht
          rw [L i t hi ht]
          exact ⟨fun q => q.elim (fun w => absurd w.1 (by omega)) (fun w => w.2), fun q => Or.inr ⟨by omega, q⟩⟩
        have up : ∀ re', (∀ t, t < fc_N sz → (fl_h re' (i * 2) t = true ↔ fw_W (fc_N sz) st A (m + 1) i t)) → (∀ s t, s < fc_N sz → s ≠ i → t < fc_N sz → fl_h re' (s * 2) t = fl_h re (s * 2) t) → ∀ s t, s < fc_N sz → t < fc_N sz → (fl_h re' (s * 2) t = true ↔ ((s < i + 1 ∧ fw_W (fc_N sz) st A (m + 1) s t) ∨ (i + 1 ≤ s ∧ fw_W (fc_N sz) st A m s t))) := by
          intro re' h1 h2 s t hs ht
          by_cases e : s = i
          · subst e
            exact (h1 t ht).trans ⟨fun q => Or.inl ⟨by omega, q⟩, fun q => q.elim (fun w => w.2) (fun w => absurd w.1 (by omega))⟩
          · rw [h2 s t hs e ht]
            exact (L s t hs ht).trans ⟨fun q => q.imp (fun w => ⟨by omega, w.2⟩) (fun w => ⟨by omega, w.2⟩), fun q => q.imp (fun w => ⟨by omega, w.2⟩) (fun w => ⟨by omega, w.2⟩)⟩
        refine fx_re (by omega) (by omega) (fun q => br_f (by decide) ?_) (fun q => br_t rfl (nm_r (nI_1 i) (k2 re (up re (fun t ht => ?_) (fun _ _ _ _ _ => rfl)))))
        · have e1 : nI i * 2 = nI (i * 2) := by rw [← pk_mul]; rfl
          have e2 : nI m * 2 = nI (m * 2) := by rw [← pk_mul]; rfl
          have e3 : nI i * 2 + 1 = nI (i * 2 + 1) := by rw [e1]; exact nI_1 _
          have e4 : nI m * 2 + 1 = nI (m * 2 + 1) := by rw [e2]; exact nI_1 _
          rw [e3, e4, e1, e2, nI_clamp (by omega), nI_clamp (by omega), nI_clamp (by omega), nI_clamp (by omega)]
          refine ⟨vp_in_nI (by omega) (by omega), vp_in_nI (by omega) (by omega), vp_in_nI (by omega) (by omega), nm_e ⟨vp_in_nI (by omega) (by omega), vp_in_nI (by omega) (by omega), vp_in_nI (by omega) (by omega), nm_e (nm_r (nI_1 i) (k2 (fl_ro re (i * 2) (m * 2)) (up _ (fun t ht => ?_) (fun s t hs e ht => ?_))))⟩⟩
          · rw [fl_rb re (by omega) (by omega) (by omega) (by omega), if_pos rfl, Bool.or_eq_true, ri t ht, rm t ht]
            exact ⟨fun w => w.imp id (fun w => ⟨(ri m hmN).mp q, w⟩), fun w => w.imp id (fun w => w.2)⟩
          · rw [fl_rb re (by omega) (by omega) (by omega) (by omega), if_neg (by omega)]
        · rw [ri t ht]
          refine ⟨fun w => Or.inl w, fun w => w.elim id (fun w => ?_)⟩
          rw [(ri m hmN).mpr w.1] at q; cases q
  · refine pk_le (fc_N sz) i (fun z => absurd z (by omega)) (fun _ => ?_)
    have e1 : nI i * 2 = nI (i * 2) := by rw [← pk_mul]; rfl
    have e3 : nI i * 2 + 1 = nI (i * 2 + 1) := by rw [e1]; exact nI_1 _
    rw [e3, e1, nI_clamp (by omega), nI_clamp (by omega)]
    refine ⟨vp_in_nI (by omega) (by omega), nm_e ⟨vp_in_nI (by omega) (by omega), nm_e ?_⟩⟩
    refine pk_loop (fun n' t re => wX_closeSteps__recurring_35 post (wX_closeSteps__recurring_7 post (nI (fc_N sz)) tl fc n) (nI (fc_N sz)) (nI i) tl fc n' (nI t) sz tk ln an fa sk lw hg mv en dp ca rc re ho ae ta ow ts fs) (fun t re => (∀ s t, s < i → t < fc_N sz → (fl_h re (s * 2) t = true ↔ fw_W (fc_N sz) st A 0 s t)) ∧ ∀ t', t' < 128 → (fl_h re (i * 2) t' = true ↔ (t' < t ∧ fw_W (fc_N sz) st A 0 i t'))) (fc_N sz) 0 _ (by omega) ⟨fun s t hs ht => ?_, fun t' ht' => ?_⟩ (fun n' re J => ?_) (fun n' t re ht J k2 => ?_)
    · rw [fl_d0 re (by omega) (by omega) (by omega), if_neg (by omega)]; exact I s t hs ht
    · rw [fl_d0 re (by omega) (by omega) (by omega), if_pos rfl]
      exact ⟨fun z => absurd z (by decide), fun z => absurd z.1 (by omega)⟩
    · refine pk_le (fc_N sz) (fc_N sz) (fun _ => nm_r (nI_1 i) (k re (fun s t hs ht => ?_))) (fun z => absurd z (by omega))
      by_cases e : s = i
      · subst e
        exact (J.2 t (by omega)).trans ⟨fun q => q.2, fun q => ⟨ht, q⟩⟩
      · exact J.1 s t (by omega) ht
    · obtain ⟨J1, J2⟩ := J
      refine pk_le (fc_N sz) t (fun z => absurd z (by omega)) (fun _ => ?_)
      have skip : ¬ fw_W (fc_N sz) st A 0 i t → wX_closeSteps__recurring_35 post (wX_closeSteps__recurring_7 post (nI (fc_N sz)) tl fc n) (nI (fc_N sz)) (nI i) tl fc n' (nI (t + 1)) sz tk ln an fa sk lw hg mv en dp ca rc re ho ae ta ow ts fs := by
        intro q
        refine k2 re ⟨J1, fun t' ht' => ?_⟩
        by_cases e : t' = t
        · subst e
          exact (J2 t' ht').trans ⟨fun w => absurd w.1 (by omega), fun w => absurd w.2 q⟩
        · exact (J2 t' ht').trans ⟨fun w => ⟨by omega, w.2⟩, fun w => ⟨by omega, w.2⟩⟩
      have t0 : ¬ fw_W (fc_N sz) st A 0 i t → wX_closeSteps__recurring_67 post (wX_closeSteps__recurring_7 post (nI (fc_N sz)) tl fc n) (wX_closeSteps__recurring_35 post (wX_closeSteps__recurring_7 post (nI (fc_N sz)) tl fc n) (nI (fc_N sz)) (nI i) tl fc n') (nI (fc_N sz)) (nI i) (nI t) 0 tl fc sz tk ln an fa sk lw hg mv en dp ca rc re ho ae ta ow ts fs := fun q => br_t rfl (nm_r (nI_1 t) (skip q))
      have t1 : (i = t ∨ st i t) → wX_closeSteps__recurring_62 post (wX_closeSteps__recurring_7 post (nI (fc_N sz)) tl fc n) (wX_closeSteps__recurring_35 post (wX_closeSteps__recurring_7 post (nI (fc_N sz)) tl fc n) (nI (fc_N sz)) (nI i) tl fc n') (nI (fc_N sz)) (nI i) (nI t) tl fc sz tk ln an fa sk lw hg mv en dp ca rc re ho ae ta ow ts fs := by
        intro q
        refine br_f (by decide) ?_
        rw [nI_clamp (n := i) (by omega), nI_clamp (n := t) (by omega), e1, fl_i (by omega), fl_r (by omega), nI_clamp (by omega)]
        refine ⟨vp_in_nI (by omega) (by omega), br_c (fun a => nm_r (nI_1 t) (skip (fun w => (fi_on hA hi).mp a w.2.2.1))) (fun a => ⟨vp_in_nI (by omega) (by omega), br_c (fun b => nm_r (nI_1 t) (skip (fun w => (fi_on hA ht).mp b w.2.2.2.1))) (fun b => ?_)⟩)⟩
        have w : fw_W (fc_N sz) st A 0 i t := ⟨hi, ht, Classical.byContradiction (fun w => a ((fi_on hA hi).mpr w)), Classical.byContradiction (fun w => b ((fi_on hA ht).mpr w)), q⟩
        refine ⟨fl_64, vp_in_nI (by omega) (by omega), fl_64, vp_in_nI (by omega) (by omega), nm_e (nm_r (nI_1 t) (k2 (fl_put re (i * 2) t) ⟨fun s t' hs ht' => ?_, fun t' ht' => ?_⟩))⟩
        · rw [fl_hs re (by omega) (by omega) (by omega) (by omega), decide_eq_false (by omega), Bool.or_false]; exact J1 s t' hs ht'
        · rw [fl_hs re (by omega) (by omega) (by omega) (by omega), Bool.or_eq_true, decide_eq_true_iff, J2 t' ht']
          by_cases e : t' = t
          · subst e
            exact ⟨fun _ => ⟨by omega, w⟩, fun _ => Or.inr ⟨rfl, rfl⟩⟩
          · exact ⟨fun z => z.elim (fun z => ⟨by omega, z.2⟩) (fun z => absurd z.2 e), fun z => Or.inl ⟨by omega, z.2⟩⟩
      have hx : nI i * 125 + nI t = nI (i * 125 + t) := by rw [← nI_add, ← pk_mul]; rfl
      rw [hx, nI_clamp (by omega)]
      refine pk_eq i t (fun e => t1 (Or.inl e)) (fun e => ⟨vp_in_nI (by omega) (by omega), br_c (fun q => t0 (fun w => ?_)) (fun q => t1 (Or.inr (Classical.byContradiction (fun w => q ((hm i t hi ht e).mpr w)))))⟩)
      exact w.2.2.2.2.elim e ((hm i t hi ht e).mp q)
theorem fx_c_calm {post : SX → Prop} (hz : fc_Z sz) (hm : ∀ s t, s < fc_N sz → t < fc_N sz → s ≠ t → (mv (s * 125 + t) = 0 ↔ ¬ st s t)) (hA : fi_ow ca (fc_N sz) A)
    (hp : ∀ re', (∀ s t, s < fc_N sz → t < fc_N sz → (fl_h re' (s * 2) t = true ↔ fw_W (fc_N sz) st A (fc_N sz) s t)) → post (tl, fc, sz, tk, ln, an, fa, sk, lw, hg, mv, en, dp, ca, rc, re', ho, ae, ta, ow, ts, fs)) : wpX_closeSteps__calm post (tl, fc, sz, tk, ln, an, fa, sk, lw, hg, mv, en, dp, ca, rc, re, ho, ae, ta, ow, ts, fs) := by
  have hN := fc_N1 hz
  unfold wpX_closeSteps__calm
  refine fx_ns hz ?_
  refine pk_loop (fun n i re => wX_closeSteps__calm_7 post (nI (fc_N sz)) tl fc n (nI i) sz tk ln an fa sk lw hg mv en dp ca rc re ho ae ta ow ts fs) (fun i re => ∀ s t, s < i → t < fc_N sz → (fl_h re (s * 2) t = true ↔ fw_W (fc_N sz) st A 0 s t)) (fc_N sz) 0 re (by omega) (fun s t hs => absurd hs (by omega)) (fun n re I => ?_) (fun n i re hi I k => ?_)
  · refine pk_le (fc_N sz) (fc_N sz) (fun _ => ?_) (fun z => absurd z (by omega))
    refine pk_loop (fun n m re => wX_closeSteps__calm_125 post (nI (fc_N sz)) tl fc n (nI m) sz tk ln an fa sk lw hg mv en dp ca rc re ho ae ta ow ts fs) (fun m re => ∀ s t, s < fc_N sz → t < fc_N sz → (fl_h re (s * 2) t = true ↔ fw_W (fc_N sz) st A m s t)) (fc_N sz) 0 re (by omega) I (fun n re J => ?_) (fun n m re hmN J k => ?_)
    · exact pk_le (fc_N sz) (fc_N sz) (fun _ => hp re J) (fun z => absurd z (by omega))
    · refine pk_le (fc_N sz) m (fun z => absurd z (by omega)) (fun _ => ?_)
      refine pk_loop (fun n' i re => wX_closeSteps__calm_133 post (wX_closeSteps__calm_125 post (nI (fc_N sz)) tl fc n) (nI (fc_N sz)) (nI m) tl fc n' (nI i) sz tk ln an fa sk lw hg mv en dp ca rc re ho ae ta ow ts fs) (fun i re => ∀ s t, s < fc_N sz → t < fc_N sz → (fl_h re (s * 2) t = true ↔ ((s < i ∧ fw_W (fc_N sz) st A (m + 1) s t) ∨ (i ≤ s ∧ fw_W (fc_N sz) st A m s t)))) (fc_N sz) 0 re (by omega) (fun s t hs ht => ?_) (fun n' re L => ?_) (fun n' i re hi L k2 => ?_)
      · exact (J s t hs ht).trans ⟨fun q => Or.inr ⟨by omega, q⟩, fun q => q.elim (fun w => absurd w.1 (by omega)) (fun w => w.2)⟩
      · refine pk_le (fc_N sz) (fc_N sz) (fun _ => nm_r (nI_1 m) (k re (fun s t hs ht => ?_))) (fun z => absurd z (by omega))
        exact (L s t hs ht).trans ⟨fun q => q.elim (fun w => w.2) (fun w => absurd w.1 (by omega)), fun q => Or.inl ⟨hs, q⟩⟩
      · refine pk_le (fc_N sz) i (fun z => absurd z (by omega)) (fun _ => ?_)
        have rm : ∀ t, t < fc_N sz → (fl_h re (m * 2) t = true ↔ fw_W (fc_N sz) st A m m t) := by
          intro t ht
          rw [L m t hmN ht]
          exact ⟨fun q => q.elim (fun w => fw_mm.mp w.2) (fun w => w.2), fun q => if h : m < i then Or.inl ⟨h, fw_mm.mpr q⟩ else Or.inr ⟨by omega, q⟩⟩
        have ri : ∀ t, t < fc_N sz → (fl_h re (i * 2) t = true ↔ fw_W (fc_N sz) st A m i t) := by
          intro t ht
          rw [L i t hi ht]
          exact ⟨fun q => q.elim (fun w => absurd w.1 (by omega)) (fun w => w.2), fun q => Or.inr ⟨by omega, q⟩⟩
        have up : ∀ re', (∀ t, t < fc_N sz → (fl_h re' (i * 2) t = true ↔ fw_W (fc_N sz) st A (m + 1) i t)) → (∀ s t, s < fc_N sz → s ≠ i → t < fc_N sz → fl_h re' (s * 2) t = fl_h re (s * 2) t) → ∀ s t, s < fc_N sz → t < fc_N sz → (fl_h re' (s * 2) t = true ↔ ((s < i + 1 ∧ fw_W (fc_N sz) st A (m + 1) s t) ∨ (i + 1 ≤ s ∧ fw_W (fc_N sz) st A m s t))) := by
          intro re' h1 h2 s t hs ht
          by_cases e : s = i
          · subst e
            exact (h1 t ht).trans ⟨fun q => Or.inl ⟨by omega, q⟩, fun q => q.elim (fun w => w.2) (fun w => absurd w.1 (by omega))⟩
          · rw [h2 s t hs e ht]
            exact (L s t hs ht).trans ⟨fun q => q.imp (fun w => ⟨by omega, w.2⟩) (fun w => ⟨by omega, w.2⟩), fun q => q.imp (fun w => ⟨by omega, w.2⟩) (fun w => ⟨by omega, w.2⟩)⟩
        refine fx_re (by omega) (by omega) (fun q => br_f (by decide) ?_) (fun q => br_t rfl (nm_r (nI_1 i) (k2 re (up re (fun t ht => ?_) (fun _ _ _ _ _ => rfl)))))
        · have e1 : nI i * 2 = nI (i * 2) := by rw [← pk_mul]; rfl
          have e2 : nI m * 2 = nI (m * 2) := by rw [← pk_mul]; rfl
          have e3 : nI i * 2 + 1 = nI (i * 2 + 1) := by rw [e1]; exact nI_1 _
          have e4 : nI m * 2 + 1 = nI (m * 2 + 1) := by rw [e2]; exact nI_1 _
          rw [e3, e4, e1, e2, nI_clamp (by omega), nI_clamp (by omega), nI_clamp (by omega), nI_clamp (by omega)]
          refine ⟨vp_in_nI (by omega) (by omega), vp_in_nI (by omega) (by omega), vp_in_nI (by omega) (by omega), nm_e ⟨vp_in_nI (by omega) (by omega), vp_in_nI (by omega) (by omega), vp_in_nI (by omega) (by omega), nm_e (nm_r (nI_1 i) (k2 (fl_ro re (i * 2) (m * 2)) (up _ (fun t ht => ?_) (fun s t hs e ht => ?_))))⟩⟩
          · rw [fl_rb re (by omega) (by omega) (by omega) (by omega), if_pos rfl, Bool.or_eq_true, ri t ht, rm t ht]
            exact ⟨fun w => w.imp id (fun w => ⟨(ri m hmN).mp q, w⟩), fun w => w.imp id (fun w => w.2)⟩
          · rw [fl_rb re (by omega) (by omega) (by omega) (by omega), if_neg (by omega)]
        · rw [ri t ht]
          refine ⟨fun w => Or.inl w, fun w => w.elim id (fun w => ?_)⟩
          rw [(ri m hmN).mpr w.1] at q; cases q
  · refine pk_le (fc_N sz) i (fun z => absurd z (by omega)) (fun _ => ?_)
    have e1 : nI i * 2 = nI (i * 2) := by rw [← pk_mul]; rfl
    have e3 : nI i * 2 + 1 = nI (i * 2 + 1) := by rw [e1]; exact nI_1 _
    rw [e3, e1, nI_clamp (by omega), nI_clamp (by omega)]
    refine ⟨vp_in_nI (by omega) (by omega), nm_e ⟨vp_in_nI (by omega) (by omega), nm_e ?_⟩⟩
    refine pk_loop (fun n' t re => wX_closeSteps__calm_35 post (wX_closeSteps__calm_7 post (nI (fc_N sz)) tl fc n) (nI (fc_N sz)) (nI i) tl fc n' (nI t) sz tk ln an fa sk lw hg mv en dp ca rc re ho ae ta ow ts fs) (fun t re => (∀ s t, s < i → t < fc_N sz → (fl_h re (s * 2) t = true ↔ fw_W (fc_N sz) st A 0 s t)) ∧ ∀ t', t' < 128 → (fl_h re (i * 2) t' = true ↔ (t' < t ∧ fw_W (fc_N sz) st A 0 i t'))) (fc_N sz) 0 _ (by omega) ⟨fun s t hs ht => ?_, fun t' ht' => ?_⟩ (fun n' re J => ?_) (fun n' t re ht J k2 => ?_)
    · rw [fl_d0 re (by omega) (by omega) (by omega), if_neg (by omega)]; exact I s t hs ht
    · rw [fl_d0 re (by omega) (by omega) (by omega), if_pos rfl]
      exact ⟨fun z => absurd z (by decide), fun z => absurd z.1 (by omega)⟩
    · refine pk_le (fc_N sz) (fc_N sz) (fun _ => nm_r (nI_1 i) (k re (fun s t hs ht => ?_))) (fun z => absurd z (by omega))
      by_cases e : s = i
      · subst e
        exact (J.2 t (by omega)).trans ⟨fun q => q.2, fun q => ⟨ht, q⟩⟩
      · exact J.1 s t (by omega) ht
    · obtain ⟨J1, J2⟩ := J
      refine pk_le (fc_N sz) t (fun z => absurd z (by omega)) (fun _ => ?_)
      have skip : ¬ fw_W (fc_N sz) st A 0 i t → wX_closeSteps__calm_35 post (wX_closeSteps__calm_7 post (nI (fc_N sz)) tl fc n) (nI (fc_N sz)) (nI i) tl fc n' (nI (t + 1)) sz tk ln an fa sk lw hg mv en dp ca rc re ho ae ta ow ts fs := by
        intro q
        refine k2 re ⟨J1, fun t' ht' => ?_⟩
        by_cases e : t' = t
        · subst e
          exact (J2 t' ht').trans ⟨fun w => absurd w.1 (by omega), fun w => absurd w.2 q⟩
        · exact (J2 t' ht').trans ⟨fun w => ⟨by omega, w.2⟩, fun w => ⟨by omega, w.2⟩⟩
      have t0 : ¬ fw_W (fc_N sz) st A 0 i t → wX_closeSteps__calm_67 post (wX_closeSteps__calm_7 post (nI (fc_N sz)) tl fc n) (wX_closeSteps__calm_35 post (wX_closeSteps__calm_7 post (nI (fc_N sz)) tl fc n) (nI (fc_N sz)) (nI i) tl fc n') (nI (fc_N sz)) (nI i) (nI t) 0 tl fc sz tk ln an fa sk lw hg mv en dp ca rc re ho ae ta ow ts fs := fun q => br_t rfl (nm_r (nI_1 t) (skip q))
      have t1 : (i = t ∨ st i t) → wX_closeSteps__calm_62 post (wX_closeSteps__calm_7 post (nI (fc_N sz)) tl fc n) (wX_closeSteps__calm_35 post (wX_closeSteps__calm_7 post (nI (fc_N sz)) tl fc n) (nI (fc_N sz)) (nI i) tl fc n') (nI (fc_N sz)) (nI i) (nI t) tl fc sz tk ln an fa sk lw hg mv en dp ca rc re ho ae ta ow ts fs := by
        intro q
        refine br_f (by decide) ?_
        rw [nI_clamp (n := i) (by omega), nI_clamp (n := t) (by omega), e1, fl_i (by omega), fl_r (by omega), nI_clamp (by omega)]
        refine ⟨vp_in_nI (by omega) (by omega), br_c (fun a => nm_r (nI_1 t) (skip (fun w => (fi_on hA hi).mp a w.2.2.1))) (fun a => ⟨vp_in_nI (by omega) (by omega), br_c (fun b => nm_r (nI_1 t) (skip (fun w => (fi_on hA ht).mp b w.2.2.2.1))) (fun b => ?_)⟩)⟩
        have w : fw_W (fc_N sz) st A 0 i t := ⟨hi, ht, Classical.byContradiction (fun w => a ((fi_on hA hi).mpr w)), Classical.byContradiction (fun w => b ((fi_on hA ht).mpr w)), q⟩
        refine ⟨fl_64, vp_in_nI (by omega) (by omega), fl_64, vp_in_nI (by omega) (by omega), nm_e (nm_r (nI_1 t) (k2 (fl_put re (i * 2) t) ⟨fun s t' hs ht' => ?_, fun t' ht' => ?_⟩))⟩
        · rw [fl_hs re (by omega) (by omega) (by omega) (by omega), decide_eq_false (by omega), Bool.or_false]; exact J1 s t' hs ht'
        · rw [fl_hs re (by omega) (by omega) (by omega) (by omega), Bool.or_eq_true, decide_eq_true_iff, J2 t' ht']
          by_cases e : t' = t
          · subst e
            exact ⟨fun _ => ⟨by omega, w⟩, fun _ => Or.inr ⟨rfl, rfl⟩⟩
          · exact ⟨fun z => z.elim (fun z => ⟨by omega, z.2⟩) (fun z => absurd z.2 e), fun z => Or.inl ⟨by omega, z.2⟩⟩
      have hx : nI i * 125 + nI t = nI (i * 125 + t) := by rw [← nI_add, ← pk_mul]; rfl
      rw [hx, nI_clamp (by omega)]
      refine pk_eq i t (fun e => t1 (Or.inl e)) (fun e => ⟨vp_in_nI (by omega) (by omega), br_c (fun q => t0 (fun w => ?_)) (fun q => t1 (Or.inr (Classical.byContradiction (fun w => q ((hm i t hi ht e).mpr w)))))⟩)
      exact w.2.2.2.2.elim e ((hm i t hi ht e).mp q)
end FXC
