section FX3
variable {tl fc : Int32} {sz tk ln an fa sk lw hg mv en dp ca rc : Nat → Int32} {re : Nat → Int64} {ho ae ta ow ts fs : Nat → Int32} {C F : Nat → Prop}
theorem fx_rr {post : Int32 → Prop} {st : Nat → Nat → Prop} (hz : fc_Z sz) (hF : fi_ow rc (fc_N sz) F) (hR : ∀ s t, s < fc_N sz → t < fc_N sz → (fl_h re (s * 2) t = true ↔ fw_W (fc_N sz) st C (fc_N sz) s t)) {s : Nat} (hs : s < fc_N sz)
    (h1 : (∃ t, t < fc_N sz ∧ F t ∧ fw_W (fc_N sz) st C (fc_N sz) s t) → post 1) (h0 : (¬ ∃ t, t < fc_N sz ∧ F t ∧ fw_W (fc_N sz) st C (fc_N sz) s t) → post 0) : wpX_reachesRecurring post (tl, fc, sz, tk, ln, an, fa, sk, lw, hg, mv, en, dp, ca, rc, re, ho, ae, ta, ow, ts, fs) (nI s) := by
  have hN := fc_N1 hz
  unfold wpX_reachesRecurring
  refine fx_ns hz ?_
  refine pk_loop (fun n i (_ : Unit) => wX_reachesRecurring_7 post (nI s) (nI (fc_N sz)) tl fc sz tk ln an fa sk lw hg mv en dp ca rc re ho ae ta ow ts fs n (nI i)) (fun i _ => ∀ t, t < i → ¬ (F t ∧ fw_W (fc_N sz) st C (fc_N sz) s t)) (fc_N sz) 0 () (by omega) (fun t ht => absurd ht (by omega)) (fun n _ I => ?_) (fun n i _ hi I k => ?_)
  · exact pk_le (fc_N sz) (fc_N sz) (fun _ => h0 (fun ⟨t, a, b⟩ => I t a b)) (fun z => absurd z (by omega))
  · refine pk_le (fc_N sz) i (fun z => absurd z (by omega)) (fun _ => ?_)
    rw [nI_clamp (by omega)]
    have skip : ¬ (F i ∧ fw_W (fc_N sz) st C (fc_N sz) s i) → wX_reachesRecurring_7 post (nI s) (nI (fc_N sz)) tl fc sz tk ln an fa sk lw hg mv en dp ca rc re ho ae ta ow ts fs n (nI (i + 1)) := by
      intro q
      refine k () (fun t ht => ?_)
      by_cases e : t = i
      · rw [e]; exact q
      · exact I t (by omega)
    refine ⟨vp_in_nI (by omega) (by omega), br_c (fun z => nm_r (nI_1 i) (skip (fun w => (fi_on hF hi).mp z w.1))) (fun z => fx_re (by omega) (by omega) (fun q => br_f (by decide) (h1 ⟨i, hi, Classical.byContradiction (fun w => z ((fi_on hF hi).mpr w)), (hR s i hs hi).mp q⟩)) (fun q => br_t rfl (nm_r (nI_1 i) (skip (fun w => ?_)))))⟩
    rw [(hR s i hs hi).mpr w.2] at q; cases q
def ff_P (sz tk ln : Nat → Int32) (st : Nat → Nat → Prop) (C F : Nat → Prop) (s : Nat) : Prop := fw_cm (fc_N sz) st C F s ∧ fc_tr sz tk ln 2 s = true
theorem fx_kf {post : SX → Prop} {st : Nat → Nat → Prop} (S : fx_S sz tk ln) (hm : ∀ s t, s < fc_N sz → t < fc_N sz → s ≠ t → (mv (s * 125 + t) = 0 ↔ ¬ st s t)) (hC : fi_ow ca (fc_N sz) C) (hF : fi_ow rc (fc_N sz) F)
    (hp : ∀ sk' re' fs', fq_f (ff_P sz tk ln st C F) (fc_N sz) fs' → post (tl, nI (fg_cn (ff_P sz tk ln st C F) (fc_N sz)), sz, tk, ln, an, fa, sk', lw, hg, mv, en, dp, ca, rc, re', ho, ae, ta, ow, ts, fs')) : wpX_keepFailing post (tl, fc, sz, tk, ln, an, fa, sk, lw, hg, mv, en, dp, ca, rc, re, ho, ae, ta, ow, ts, fs) := by
  have hz := S.1
  have hN := fc_N1 hz
  unfold wpX_keepFailing
  refine fx_c_calm hz hm hC (fun re' hR => fx_ns hz ?_)
  refine pk_loop (fun n i (p : Int32 × (Nat → Int32) × (Nat → Int32)) => wX_keepFailing_20 post (nI (fc_N sz)) n (nI i) tl p.1 sz tk ln an fa p.2.1 lw hg mv en dp ca rc re' ho ae ta ow ts p.2.2) (fun i p => p.1 = nI (fg_cn (ff_P sz tk ln st C F) i) ∧ fq_f (ff_P sz tk ln st C F) i p.2.2) (fc_N sz) 0 (0, sk, fs) (by omega) ⟨rfl, fun s hs => absurd hs (by omega)⟩ (fun n p I => ?_) (fun n i p hi I k => ?_)
  · obtain ⟨x, sk, fs⟩ := p
    obtain ⟨I1, I2⟩ := I
    have I1 : x = _ := I1
    subst I1
    exact pk_le (fc_N sz) (fc_N sz) (fun _ => hp sk re' fs I2) (fun z => absurd z (by omega))
  · obtain ⟨x, sk, fs⟩ := p
    obtain ⟨I1, I2⟩ := I
    have I1 : x = _ := I1
    subst I1
    have I2 : fq_f (ff_P sz tk ln st C F) i fs := I2
    have hcn := fg_cn_le (ff_P sz tk ln st C F) i
    refine pk_le (fc_N sz) i (fun z => absurd z (by omega)) (fun _ => ?_)
    rw [nI_clamp (n := i) (by omega)]
    obtain ⟨h1, h2, h3⟩ := S.2.2 2 (by omega) (by omega)
    have skip : ∀ sk', ¬ ff_P sz tk ln st C F i → wX_keepFailing_20 post (nI (fc_N sz)) n (nI (i + 1)) tl (nI (fg_cn (ff_P sz tk ln st C F) i)) sz tk ln an fa sk' lw hg mv en dp ca rc re' ho ae ta ow ts fs := by
      intro sk' q
      refine k (_, sk', fs) ⟨?_, fq_ff I2 q⟩
      rw [fg_cn_f q]; rfl
    refine ⟨vp_in_nI (by omega) (by omega), br_c (fun z => nm_r (nI_1 i) (skip sk (fun w => (fi_on hC hi).mp z w.1.1))) (fun z => ?_)⟩
    have c : C i := Classical.byContradiction (fun w => z ((fi_on hC hi).mpr w))
    refine fx_is hz (j := 2) (by omega) (by omega) h3 h1 h2 (fun sk' => ?_)
    by_cases e : fc_tr sz tk ln 2 i = true
    · rw [if_pos e]
      refine br_f (by decide) (fx_rr hz hF hR hi (fun q => br_f (by decide) ?_) (fun q => br_t rfl (nm_r (nI_1 i) (skip sk' (fun w => q w.1.2)))))
      have p : ff_P sz tk ln st C F i := ⟨⟨c, q⟩, e⟩
      rw [nI_clamp (by omega), nI_1]
      refine ⟨vp_in_nI (by omega) (by omega), nm_e (nm_e (nm_r (nI_1 i) (k (_, sk', _) ⟨?_, fq_ft I2 p⟩)))⟩
      rw [fg_cn_t p]; rfl
    · rw [if_neg e]
      exact br_t rfl (nm_r (nI_1 i) (skip sk' (fun w => e w.2)))
/-- calm: reached, and what must come to be is not yet -/
def ff_C (sz tk ln an : Nat → Int32) (s : Nat) : Prop := s < fc_N sz ∧ (∃ d, fg_F (fc_N sz) (fc_i sz tk ln) (fc_st sz tk ln an) d s) ∧ fc_w sz tk ln 0 s = 0
def ff_F (sz tk ln an fa : Nat → Int32) : Nat → Prop := fw_F (fc_N sz) (fc_st sz tk ln an) (fc_M sz tk ln an) (fc_en sz tk ln an) (ff_t ln fa) (ff_C sz tk ln an)
def ff_it (sz tk ln an fa : Nat → Int32) (j : Nat) : Nat → Prop := fw_it (fc_N sz) (fc_st sz tk ln an) (fc_M sz tk ln an) (fc_en sz tk ln an) (ff_t ln fa) (ff_C sz tk ln an) j
def ff_Q (sz tk ln an fa : Nat → Int32) (s : Nat) : Prop := ff_P sz tk ln (fc_st sz tk ln an) (ff_C sz tk ln an) (ff_F sz tk ln an fa) s
theorem ff_r {dp : Nat → Int32} {sz tk ln an : Nat → Int32} (hN : fc_N sz < 2 ^ 30) (hD : fc_Dp sz tk ln an dp) {s : Nat} (hs : s < fc_N sz) : ¬ dp s < 0 ↔ ∃ d, fg_F (fc_N sz) (fc_i sz tk ln) (fc_st sz tk ln an) d s := by
  rcases hD s hs with ⟨d, hd, e, f⟩ | ⟨e, f⟩
  · rw [e]; exact ⟨fun _ => ⟨d, f⟩, fun _ => nI_pos (by omega)⟩
  · rw [e]; exact ⟨fun z => absurd fn_m1lt z, fun ⟨d, q⟩ => absurd q.1 (f d)⟩
/-- a round takes states away, or nothing is left to take -/
theorem ff_ro {sz tk ln an fa : Nat → Int32} {j : Nat} (hj : fg_cn (ff_it sz tk ln an fa j) (fc_N sz) + j ≤ fc_N sz) (h : ∃ s, s < fc_N sz ∧ ff_it sz tk ln an fa j s ∧ fw_un (fc_N sz) (fc_st sz tk ln an) (fc_M sz tk ln an) (fc_en sz tk ln an) (ff_t ln fa) (ff_it sz tk ln an fa j) s) : fg_cn (ff_it sz tk ln an fa (j + 1)) (fc_N sz) + (j + 1) ≤ fc_N sz := by
  have := fw_ct h
  have e : fg_cn (ff_it sz tk ln an fa (j + 1)) (fc_N sz) < fg_cn (ff_it sz tk ln an fa j) (fc_N sz) := this
  omega
theorem ff_no {sz tk ln an fa : Nat → Int32} {j : Nat} (hj : fg_cn (ff_it sz tk ln an fa j) (fc_N sz) + j ≤ fc_N sz) (h : ∀ s, s < fc_N sz → ff_it sz tk ln an fa j s → ¬ fw_un (fc_N sz) (fc_st sz tk ln an) (fc_M sz tk ln an) (fc_en sz tk ln an) (ff_t ln fa) (ff_it sz tk ln an fa j) s) : ff_it sz tk ln an fa (j + 1) = ff_F sz tk ln an fa := by
  have hC : ∀ s, ff_C sz tk ln an s → s < fc_N sz := fun s q => q.1
  have e1 : ff_it sz tk ln an fa j = ff_F sz tk ln an fa := fw_Fe hC (by omega) h
  have e2 : ff_it sz tk ln an fa (j + 1) = ff_it sz tk ln an fa j := fw_fx hC h 1
  rw [e2, e1]
theorem fx_fa {post : Int32 → SX → Prop} (S : fx_S sz tk ln) (X : fx_X sz tk ln an mv en dp) (Fa : fr_f fa) (ok : fc_ok tk ln 0)
    (hp : ∀ sk' ca' rc' re' ho' ae' ta' fs', fq_f (ff_Q sz tk ln an fa) (fc_N sz) fs' → post (nI (fg_cn (ff_Q sz tk ln an fa) (fc_N sz))) (tl, nI (fg_cn (ff_Q sz tk ln an fa) (fc_N sz)), sz, tk, ln, an, fa, sk', lw, hg, mv, en, dp, ca', rc', re', ho', ae', ta', ow, ts, fs')) : ∃ n, wX_fails_21 post (nI (fc_N sz)) n 0 tl fc sz tk ln an fa sk lw hg mv en dp ca rc re ho ae ta ow ts fs := by
  have hz := S.1
  have hN := fc_N1 hz
  have hL0 : fc_L ln 0 ≠ 0 := fun z => by have := ok.2; rw [z] at this; exact fc_ex0 this
  refine pk_loop (fun n i (p : (Nat → Int32) × (Nat → Int32) × (Nat → Int32)) => wX_fails_21 post (nI (fc_N sz)) n (nI i) tl fc sz tk ln an fa p.1 lw hg mv en dp p.2.1 p.2.2 re ho ae ta ow ts fs) (fun i p => fi_ow p.2.1 i (ff_C sz tk ln an) ∧ fi_ow p.2.2 i (ff_C sz tk ln an)) (fc_N sz) 0 (sk, ca, rc) (by omega) ⟨fun s hs => absurd hs (by omega), fun s hs => absurd hs (by omega)⟩ (fun n p I => ?_) (fun n i p hi I k => ?_)
  · obtain ⟨sk, ca, rc⟩ := p
    obtain ⟨I1, I2⟩ := I
    have I1 : fi_ow ca (fc_N sz) (ff_C sz tk ln an) := I1
    have I2 : fi_ow rc (fc_N sz) (ff_C sz tk ln an) := I2
    refine pk_le (fc_N sz) (fc_N sz) (fun _ => ?_) (fun z => absurd z (by omega))
    refine loop_m (fun n (p : Int32 × Nat × (Nat → Int32) × (Nat → Int64) × (Nat → Int32) × (Nat → Int32) × (Nat → Int32)) => wX_fails_77 post (nI (fc_N sz)) n p.1 (nI p.2.1) tl fc sz tk ln an fa sk lw hg mv en dp ca p.2.2.1 p.2.2.2.1 p.2.2.2.2.1 p.2.2.2.2.2.1 p.2.2.2.2.2.2 ow ts fs)
      (fun p => (p.1 = 0 ∧ fi_ow p.2.2.1 (fc_N sz) (ff_F sz tk ln an fa)) ∨ (p.1 = 1 ∧ fi_ow p.2.2.1 (fc_N sz) (ff_it sz tk ln an fa p.2.1) ∧ fg_cn (ff_it sz tk ln an fa p.2.1) (fc_N sz) + p.2.1 ≤ fc_N sz))
      (fun p => if p.1 = 0 then 0 else fc_N sz + 2 - p.2.1) (fun n p J k => ?_) (1, 0, rc, re, ho, ae, ta) (Or.inr ⟨rfl, I2, fg_cn_le _ _⟩)
    · obtain ⟨x, j, rc, re, ho, ae, ta⟩ := p
      rcases J with ⟨e, J⟩ | ⟨e, J1, J2⟩
      · have e : x = 0 := e
        subst e
        refine br_t rfl ?_
        unfold wX_fails_97
        exact fx_kf S (fun s t hs ht e => fx_mz (X.1 s hs).1 ht e) I1 J (fun sk' re' fs' hq => hp sk' ca rc re' ho ae ta fs' hq)
      · have e : x = 1 := e
        subst e
        have J1 : fi_ow rc (fc_N sz) (ff_it sz tk ln an fa j) := J1
        have J2 : fg_cn (ff_it sz tk ln an fa j) (fc_N sz) + j ≤ fc_N sz := J2
        refine br_f (show ¬ (1 : Int32) = 0 by decide) (pk_lt (fc_N sz) j (fun z => absurd z (by omega)) (fun _ => ?_) rfl rfl (by omega) (by omega))
        refine fx_ru S X.1 Fa J1 (fun re' ho' ae' ta' rc' r hr hq => nm_r (nI_1 j) ?_)
        rcases hq with ⟨rfl, hq⟩ | ⟨rfl, hq⟩
        · refine k (0, j + 1, rc', re', ho', ae', ta') (Or.inl ⟨rfl, ?_⟩) ?_
          · have := ff_no J2 hq
            show fi_ow rc' (fc_N sz) (ff_F sz tk ln an fa)
            rw [← this]; exact hr
          · show 0 < fc_N sz + 2 - j
            omega
        · refine k (1, j + 1, rc', re', ho', ae', ta') (Or.inr ⟨rfl, hr, ff_ro J2 hq⟩) ?_
          show fc_N sz + 2 - (j + 1) < fc_N sz + 2 - j
          omega
  · obtain ⟨sk, ca, rc⟩ := p
    obtain ⟨I1, I2⟩ := I
    have I1 : fi_ow ca i (ff_C sz tk ln an) := I1
    have I2 : fi_ow rc i (ff_C sz tk ln an) := I2
    refine pk_le (fc_N sz) i (fun z => absurd z (by omega)) (fun _ => ?_)
    rw [nI_clamp (n := i) (by omega)]
    have hr := ff_r (by omega) X.2 hi
    have fin : ∀ sk' x, ((x = 0 ∧ ¬ ff_C sz tk ln an i) ∨ (x = 1 ∧ ff_C sz tk ln an i)) → wX_fails_54 post (wX_fails_21 post (nI (fc_N sz)) n) (nI (fc_N sz)) (nI i) x (nI i) tl fc sz tk ln an fa sk' lw hg mv en dp ca rc re ho ae ta ow ts fs := by
      intro sk' x hx
      have nb : vp_nar .boolean x = x := by
        rcases hx with ⟨e, _⟩ | ⟨e, _⟩
        · rw [e]; exact fn_b0
        · rw [e]; exact fn_b1
      refine ⟨vp_in_nI (by omega) (by omega), ?_⟩
      rw [nI_clamp (by omega), nb]
      refine nm_e ⟨vp_in_nI (by omega) (by omega), vp_in_nI (by omega) (by omega), ?_⟩
      rw [pk_us, nb]
      refine nm_e (nm_r (nI_1 i) (k (sk', _, _) ⟨fun s hs => ?_, fun s hs => ?_⟩))
      · show (upd ca i x s = 0 ∧ _) ∨ (upd ca i x s = 1 ∧ _)
        by_cases e : s = i
        · subst e; rw [pk_us]; exact hx
        · rw [pk_un e]; exact I1 s (by omega)
      · show (upd rc i x s = 0 ∧ _) ∨ (upd rc i x s = 1 ∧ _)
        by_cases e : s = i
        · subst e; rw [pk_us]; exact hx
        · rw [pk_un e]; exact I2 s (by omega)
    refine ⟨vp_in_nI (by omega) (by omega), br_c (fun d => fin sk 0 (Or.inl ⟨rfl, fun w => hr.mpr w.2.1 d⟩)) (fun d => ?_)⟩
    refine fx_is hz (j := 0) (by omega) (by omega) (Or.inr ok) ok.1.1 ok.1.2.1 (fun sk' => ?_)
    have etr : fc_tr sz tk ln 0 i = decide (fc_w sz tk ln 0 i ≠ 0) := by
      unfold fc_tr; rw [decide_eq_false hL0, Bool.false_or]
    rw [etr]
    by_cases b : fc_w sz tk ln 0 i = 0
    · exact br_t (by rw [decide_eq_false (fun q => q b)]; rfl) (fin sk' 1 (Or.inr ⟨rfl, hi, hr.mp d, b⟩))
    · exact br_f (by rw [decide_eq_true b]; decide) (fin sk' 0 (Or.inl ⟨rfl, fun w => b w.2.2⟩))
end FX3
