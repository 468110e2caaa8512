section FXE
variable {tl fc : Int32} {sz tk ln an fa sk lw hg mv en dp ca rc : Nat → Int32} {re : Nat → Int64} {ho ae ta ow ts fs : Nat → Int32}
def fc_ek (M : Nat → Nat → Nat → Bool) (a s : Nat) : Nat → Bool
  | 0 => false
  | k + 1 => fc_ek M a s k || (decide (k ≠ s) && M a s k)
theorem fc_ek_iff (M : Nat → Nat → Nat → Bool) (a s : Nat) : ∀ k, fc_ek M a s k = true ↔ ∃ t, t < k ∧ t ≠ s ∧ M a s t = true := by
  intro k
  induction k with
  | zero =>
    constructor
    · intro h; cases h
    · rintro ⟨t, h, _⟩; omega
  | succ k ih =>
    show (fc_ek M a s k || (decide (k ≠ s) && M a s k)) = true ↔ _
    rw [Bool.or_eq_true, ih, Bool.and_eq_true, decide_eq_true_iff]
    constructor
    · rintro (⟨t, h1, h2⟩ | ⟨h1, h2⟩)
      · exact ⟨t, by omega, h2⟩
      · exact ⟨k, by omega, h1, h2⟩
    · rintro ⟨t, h1, h2, h3⟩
      by_cases e : t = k
      · subst e; exact Or.inr ⟨h2, h3⟩
      · exact Or.inl ⟨t, by omega, h2, h3⟩
def fc_en (sz tk ln an : Nat → Int32) (a s : Nat) : Bool := fc_ek (fc_M sz tk ln an) a s (fc_N sz)
def fc_st (sz tk ln an : Nat → Int32) (s t : Nat) : Prop := s ≠ t ∧ ∃ a, a < 4 ∧ fc_M sz tk ln an a s t = true
def fc_i (sz tk ln : Nat → Int32) (s : Nat) : Prop := fc_tr sz tk ln 1 s = true
def fc_Dp (sz tk ln an dp : Nat → Int32) : Prop := fg_D (fc_N sz) (fc_i sz tk ln) (fc_st sz tk ln an) dp
def fx_mvs (sz tk ln an mv : Nat → Int32) (s : Nat) : Prop := ∀ t, t < fc_N sz → fb_4 (mv (s * 125 + t)) (fun a => fc_M sz tk ln an a s t)
def fx_X (sz tk ln an mv en dp : Nat → Int32) : Prop := (∀ s, s < fc_N sz → fx_mvs sz tk ln an mv s ∧ fb_4 (en s) (fun a => fc_en sz tk ln an a s)) ∧ fc_Dp sz tk ln an dp
theorem fx_mz {sz tk ln an mv : Nat → Int32} {s t : Nat} (h : fx_mvs sz tk ln an mv s) (ht : t < fc_N sz) (e : s ≠ t) : mv (s * 125 + t) = 0 ↔ ¬ fc_st sz tk ln an s t := by
  rw [fb_z (h t ht)]
  constructor
  · rintro k ⟨_, a, ha, q⟩
    rw [k a ha] at q; cases q
  · intro k a ha
    cases q : fc_M sz tk ln an a s t
    · rfl
    · exact absurd ⟨e, a, ha, q⟩ k
/-! deepenFrom, findDepths -/
theorem fx_df {post : SX → Prop} (hz : fc_Z sz) {s d : Nat} (hs : s < fc_N sz) (hd : dp s = nI d) (hd2 : d < 2 ^ 30) (hm : fx_mvs sz tk ln an mv s)
    (hv : ∀ t, t < fc_N sz → dp t = -1 ∨ ∃ e, e < 2 ^ 30 ∧ dp t = nI e) (hp : ∀ dq, fg_dn (fc_N sz) (fc_st sz tk ln an) d s dp dq → post (tl, fc, sz, tk, ln, an, fa, sk, lw, hg, mv, en, dq, ca, rc, re, ho, ae, ta, ow, ts, fs)) : wpX_deepenFrom post (tl, fc, sz, tk, ln, an, fa, sk, lw, hg, mv, en, dp, ca, rc, re, ho, ae, ta, ow, ts, fs) (nI s) := by
  have hN := fc_N1 hz
  unfold wpX_deepenFrom
  refine fx_ns hz ?_
  refine pk_loop (fun n i q => wX_deepenFrom_7 post (nI s) (nI (fc_N sz)) tl fc n (nI i) sz tk ln an fa sk lw hg mv en q ca rc re ho ae ta ow ts fs) (fun i q => (∀ t, t < i → (dp t = -1 ∧ fc_st sz tk ln an s t ∧ q t = nI (d + 1)) ∨ (¬ (dp t = -1 ∧ fc_st sz tk ln an s t) ∧ q t = dp t)) ∧ (∀ t, i ≤ t → q t = dp t) ∧ q s = nI d) (fc_N sz) 0 dp (by omega) ⟨fun t ht => absurd ht (by omega), fun t _ => rfl, hd⟩ (fun n q I => ?_) (fun n i q hi I k => ?_)
  · exact pk_le (fc_N sz) (fc_N sz) (fun _ => hp q I.1) (fun z => absurd z (by omega))
  · obtain ⟨I1, I2, I3⟩ := I
    refine pk_le (fc_N sz) i (fun z => absurd z (by omega)) (fun _ => ?_)
    refine ⟨vp_in_nI (by omega) (by omega), ?_⟩
    have hx : nI s * 125 + nI i = nI (s * 125 + i) := by rw [← nI_add, ← pk_mul]; rfl
    rw [hx, nI_clamp (by omega), nI_clamp (by omega), nI_clamp (by omega), I2 i (Nat.le_refl _)]
    have keep : ¬ (dp i = -1 ∧ fc_st sz tk ln an s i) → wX_deepenFrom_7 post (nI s) (nI (fc_N sz)) tl fc n (nI (i + 1)) sz tk ln an fa sk lw hg mv en q ca rc re ho ae ta ow ts fs := by
      intro z
      refine k q ⟨fun t ht => ?_, fun t ht => I2 t (by omega), I3⟩
      by_cases e : t = i
      · subst e; exact Or.inr ⟨z, I2 t (by omega)⟩
      · exact I1 t (by omega)
    rcases hv i hi with e | ⟨e, he, ee⟩
    · refine br_f (by rw [e]; decide) ⟨vp_in_nI (by omega) (by omega), ?_⟩
      have hsi : s ≠ i := by
        rintro rfl
        rw [e] at hd; exact fn_ne1 (by omega) hd.symm
      refine br_c (fun z => nm_r (nI_1 i) (keep (fun q => (fx_mz hm hi hsi).mp z q.2))) (fun z => ?_)
      refine ⟨vp_in_nI (by omega) (by omega), vp_in_nI (by omega) (by omega), ?_⟩
      rw [I3, nI_1]
      refine nm_e (nm_r (nI_1 i) (k _ ⟨fun t ht => ?_, fun t ht => ?_, ?_⟩))
      · by_cases e2 : t = i
        · subst e2
          rw [pk_us]
          exact Or.inl ⟨e, Classical.byContradiction (fun w => z ((fx_mz hm hi hsi).mpr w)), rfl⟩
        · rw [pk_un e2]; exact I1 t (by omega)
      · rw [pk_un (by omega)]; exact I2 t (by omega)
      · rw [pk_un hsi]; exact I3
    · refine br_t (by rw [ee]; exact nI_pos' (by omega)) (nm_r (nI_1 i) (keep ?_))
      rintro ⟨q, _⟩
      rw [ee] at q
      exact fn_ne1 (by omega) q
theorem fx_Iv {N : Nat} {I0 : Nat → Prop} {st : Nat → Nat → Prop} {d s0 : Nat} {dp : Nat → Int32} (hd : d < 2 ^ 20) (h : fg_I N I0 st d s0 dp) (t : Nat) (ht : t < N) : dp t = -1 ∨ ∃ e, e < 2 ^ 30 ∧ dp t = nI e := by
  rcases h t ht with ⟨k, hk, ek, g⟩ | ⟨ek, g⟩ | ⟨ek, g⟩
  · exact Or.inr ⟨k, by omega, ek⟩
  · exact Or.inr ⟨d + 1, by omega, ek⟩
  · exact Or.inl ek
theorem fx_fd {post : SX → Prop} (S : fx_S sz tk ln) (hm : ∀ s, s < fc_N sz → fx_mvs sz tk ln an mv s) (hp : ∀ sk' dp', fc_Dp sz tk ln an dp' → post (tl, fc, sz, tk, ln, an, fa, sk', lw, hg, mv, en, dp', ca, rc, re, ho, ae, ta, ow, ts, fs)) : wpX_findDepths post (tl, fc, sz, tk, ln, an, fa, sk, lw, hg, mv, en, dp, ca, rc, re, ho, ae, ta, ow, ts, fs) := by
  have hz := S.1
  have hN := fc_N1 hz
  unfold wpX_findDepths
  refine fx_ns hz ?_
  refine pk_loop (fun n i p => wX_findDepths_7 post (nI (fc_N sz)) n (nI i) tl fc sz tk ln an fa p.1 lw hg mv en p.2 ca rc re ho ae ta ow ts fs) (fun i (p : (Nat → Int32) × (Nat → Int32)) => ∀ s, s < i → (fc_i sz tk ln s ∧ p.2 s = 0) ∨ (¬ fc_i sz tk ln s ∧ p.2 s = -1)) (fc_N sz) 0 (sk, dp) (by omega) (fun v hv => absurd hv (by omega)) (fun n p I => ?_) (fun n i p hi I k => ?_)
  · obtain ⟨sk, dp⟩ := p
    refine pk_le (fc_N sz) (fc_N sz) (fun _ => ?_) (fun z => absurd z (by omega))
    refine pk_loop (fun n d q => wX_findDepths_40 post (nI (fc_N sz)) n (nI d) tl fc sz tk ln an fa sk lw hg mv en q ca rc re ho ae ta ow ts fs) (fun d q => fg_I (fc_N sz) (fc_i sz tk ln) (fc_st sz tk ln an) d 0 q) (fc_N sz) 0 dp (by omega) (fg_I0 I) (fun n q J => ?_) (fun n d q hd J k => ?_)
    · exact pk_le (fc_N sz) (fc_N sz) (fun _ => hp sk q (fg_fX J)) (fun z => absurd z (by omega))
    · refine pk_le (fc_N sz) d (fun z => absurd z (by omega)) (fun _ => ?_)
      refine pk_loop (fun n' i q => wX_findDepths_47 post (wX_findDepths_40 post (nI (fc_N sz)) n) (nI (fc_N sz)) (nI d) n' (nI i) tl fc sz tk ln an fa sk lw hg mv en q ca rc re ho ae ta ow ts fs) (fun i q => fg_I (fc_N sz) (fc_i sz tk ln) (fc_st sz tk ln an) d i q) (fc_N sz) 0 q (by omega) J (fun n' q J => ?_) (fun n' i q hi J k2 => ?_)
      · exact pk_le (fc_N sz) (fc_N sz) (fun _ => nm_r (nI_1 d) (k q (fg_en J))) (fun z => absurd z (by omega))
      · refine pk_le (fc_N sz) i (fun z => absurd z (by omega)) (fun _ => ?_)
        refine ⟨vp_in_nI (by omega) (by omega), ?_⟩
        rw [nI_clamp (by omega)]
        refine br_c (fun e => ?_) (fun e => nm_r (nI_1 i) (k2 q (fg_sk J e)))
        refine fx_df hz hi e (by omega) (hm i hi) (fun t ht => fx_Iv (by omega) J t ht) (fun dq hq => ?_)
        exact nm_r (nI_1 i) (k2 dq (fg_st J (fg_Ie (by omega) (by omega) J hi e) hq (by omega)))
  · obtain ⟨sk, dp⟩ := p
    refine pk_le (fc_N sz) i (fun z => absurd z (by omega)) (fun _ => ?_)
    obtain ⟨h1, h2, h3⟩ := S.2.2 1 (by omega) (by omega)
    have fin : ∀ sk' x, ((fc_i sz tk ln i ∧ x = 0) ∨ (¬ fc_i sz tk ln i ∧ x = -1)) → wX_findDepths_7 post (nI (fc_N sz)) n (nI (i + 1)) tl fc sz tk ln an fa sk' lw hg mv en (upd dp i x) ca rc re ho ae ta ow ts fs := by
      intro sk' x h
      refine k (sk', upd dp i x) (fun s hs => ?_)
      by_cases e : s = i
      · subst e; show (_ ∧ upd dp s x s = 0) ∨ (_ ∧ upd dp s x s = -1); rw [pk_us]; exact h
      · show (_ ∧ upd dp i x s = 0) ∨ (_ ∧ upd dp i x s = -1); rw [pk_un e]; exact I s (by omega)
    refine fx_is hz (j := 1) (by omega) (by omega) h3 h1 h2 (fun sk' => ?_)
    rw [nI_clamp (by omega)]
    cases e : fc_tr sz tk ln 1 i
    · refine br_t (by rfl) ⟨vp_in_nI (by omega) (by omega), nm_e (nm_r (nI_1 i) (fin sk' _ (Or.inr ⟨?_, rfl⟩)))⟩
      unfold fc_i; rw [e]; decide
    · refine br_f (by decide) ⟨vp_in_nI (by omega) (by omega), nm_e (nm_r (nI_1 i) (fin sk' _ (Or.inl ⟨e, rfl⟩)))⟩
end FXE
