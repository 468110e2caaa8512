section FXI
variable {tl fc : Int32} {sz tk ln an fa sk lw hg mv en dp ca rc : Nat → Int32} {re : Nat → Int64} {ho ae ta ow ts fs : Nat → Int32} {I0 : Nat → Prop} {st : Nat → Nat → Prop} {Br : Nat → Prop}
/-! the least depth of a breach -/
def fi_b (dp : Nat → Int32) (br : Nat → Bool) : Nat → Int32
  | 0 => -1
  | s + 1 => if dp s < 0 then fi_b dp br s else if br s then (if fi_b dp br s < 0 then dp s else if fi_b dp br s ≤ dp s then fi_b dp br s else dp s) else fi_b dp br s
theorem fi_bc {dp dq : Nat → Int32} {br : Nat → Bool} : ∀ s, (∀ i, i < s → dq i = dp i) → fi_b dq br s = fi_b dp br s := by
  intro s
  induction s with
  | zero => intro _; rfl
  | succ s ih =>
    intro h
    show (if dq s < 0 then fi_b dq br s else if br s then (if fi_b dq br s < 0 then dq s else if fi_b dq br s ≤ dq s then fi_b dq br s else dq s) else fi_b dq br s) = _
    rw [ih (fun i hi => h i (by omega)), h s (by omega)]
    rfl
theorem fi_bx {dp : Nat → Int32} {br : Nat → Bool} : ∀ s, fi_b dp br s = -1 ∨ ∃ i, i < s ∧ ¬ dp i < 0 ∧ br i = true ∧ fi_b dp br s = dp i := by
  intro s
  induction s with
  | zero => exact Or.inl rfl
  | succ s ih =>
    have e : fi_b dp br (s + 1) = (if dp s < 0 then fi_b dp br s else if br s then (if fi_b dp br s < 0 then dp s else if fi_b dp br s ≤ dp s then fi_b dp br s else dp s) else fi_b dp br s) := rfl
    have keep : fi_b dp br (s + 1) = fi_b dp br s → fi_b dp br (s + 1) = -1 ∨ ∃ i, i < s + 1 ∧ ¬ dp i < 0 ∧ br i = true ∧ fi_b dp br (s + 1) = dp i := by
      intro q
      rw [q]
      rcases ih with h | ⟨i, hi, h⟩
      · exact Or.inl h
      · exact Or.inr ⟨i, by omega, h⟩
    by_cases d : dp s < 0
    · rw [if_pos d] at e; exact keep e
    · rw [if_neg d] at e
      by_cases b : br s = true
      · rw [if_pos b] at e
        by_cases c : fi_b dp br s < 0
        · rw [if_pos c] at e; exact Or.inr ⟨s, by omega, d, b, e⟩
        · rw [if_neg c] at e
          by_cases f : fi_b dp br s ≤ dp s
          · rw [if_pos f] at e; exact keep e
          · rw [if_neg f] at e; exact Or.inr ⟨s, by omega, d, b, e⟩
      · rw [if_neg b] at e; exact keep e
theorem fx_lb {post : Int32 → SX → Prop} (hz : fc_Z sz) (ok : fc_ok tk ln 0)
    (hp : ∀ sk', post (fi_b dp (fun s => decide (fc_w sz tk ln 0 s = 0)) (fc_N sz)) (tl, fc, sz, tk, ln, an, fa, sk', lw, hg, mv, en, dp, ca, rc, re, ho, ae, ta, ow, ts, fs)) : wpX_leastDepthOfBreach post (tl, fc, sz, tk, ln, an, fa, sk, lw, hg, mv, en, dp, ca, rc, re, ho, ae, ta, ow, ts, fs) := by
  have hN := fc_N1 hz
  unfold wpX_leastDepthOfBreach
  refine fx_ns hz ?_
  have hL0 : fc_L ln 0 ≠ 0 := fun z => by have := ok.2; rw [z] at this; exact fc_ex0 this
  refine pk_loop (fun n i p => wX_leastDepthOfBreach_9 post (nI (fc_N sz)) n p.1 (nI i) tl fc sz tk ln an fa p.2 lw hg mv en dp ca rc re ho ae ta ow ts fs) (fun i (p : Int32 × (Nat → Int32)) => p.1 = fi_b dp (fun s => decide (fc_w sz tk ln 0 s = 0)) i) (fc_N sz) 0 (-1, sk) (by omega) rfl (fun n p I => ?_) (fun n i p hi I k => ?_)
  · obtain ⟨x, sk⟩ := p
    have I : x = _ := I
    subst I
    exact pk_le (fc_N sz) (fc_N sz) (fun _ => hp sk) (fun z => absurd z (by omega))
  · obtain ⟨x, sk⟩ := p
    have I : x = _ := I
    have k : ∀ sk' y, y = (if dp i < 0 then x else if decide (fc_w sz tk ln 0 i = 0) = true then (if x < 0 then dp i else if x ≤ dp i then x else dp i) else x) → wX_leastDepthOfBreach_9 post (nI (fc_N sz)) n y (nI (i + 1)) tl fc sz tk ln an fa sk' lw hg mv en dp ca rc re ho ae ta ow ts fs := by
      intro sk' y ey
      refine k (y, sk') ?_
      show y = _
      rw [ey, I]; rfl
    refine pk_le (fc_N sz) i (fun z => absurd z (by omega)) (fun _ => ?_)
    rw [nI_clamp (by omega)]
    have t41 : x = (if dp i < 0 then x else if decide (fc_w sz tk ln 0 i = 0) = true then (if x < 0 then dp i else if x ≤ dp i then x else dp i) else x) → wX_leastDepthOfBreach_41 post (wX_leastDepthOfBreach_9 post (nI (fc_N sz)) n) (nI (fc_N sz)) x (nI i) tl fc sz tk ln an fa sk lw hg mv en dp ca rc re ho ae ta ow ts fs := fun e => br_t rfl (nm_r (nI_1 i) (k sk _ e))
    have t37 : ¬ dp i < 0 → (x < 0 ∨ ¬ x ≤ dp i) → wX_leastDepthOfBreach_37 post (wX_leastDepthOfBreach_9 post (nI (fc_N sz)) n) (nI (fc_N sz)) x (nI i) tl fc sz tk ln an fa sk lw hg mv en dp ca rc re ho ae ta ow ts fs := by
      intro d c
      refine br_f (by decide) ?_
      refine fx_is hz (j := 0) (by omega) (by omega) (Or.inr ok) ok.1.1 ok.1.2.1 (fun sk' => ?_)
      rw [nI_clamp (by omega)]
      have etr : fc_tr sz tk ln 0 i = decide (fc_w sz tk ln 0 i ≠ 0) := by
        unfold fc_tr; rw [decide_eq_false hL0, Bool.false_or]
      rw [etr]
      by_cases e : fc_w sz tk ln 0 i = 0
      · refine br_t (by rw [decide_eq_false (fun q => q e)]; rfl) ⟨vp_in_nI (by omega) (by omega), nm_e (nm_r (nI_1 i) (k sk' _ ?_))⟩
        rw [if_neg d, decide_eq_true e, if_pos rfl]
        rcases c with c | c
        · rw [if_pos c]
        · by_cases c2 : x < 0
          · rw [if_pos c2]
          · rw [if_neg c2, if_neg c]
      · refine br_f (by rw [decide_eq_true e]; decide) (nm_r (nI_1 i) (k sk' _ ?_))
        rw [if_neg d, decide_eq_false e]; rfl
    refine ⟨vp_in_nI (by omega) (by omega), br_c (fun d => t41 (by rw [if_pos d])) (fun d => br_c (fun c => t37 d (Or.inl c)) (fun c => ⟨vp_in_nI (by omega) (by omega), br_c (fun f => t41 ?_) (fun f => t37 d (Or.inr f))⟩))⟩
    rw [if_neg d, if_neg c, if_pos f]
    by_cases q : decide (fc_w sz tk ln 0 i = 0) = true
    · rw [if_pos q]
    · rw [if_neg q]
/-! ways to a breach -/
def fi_ow (ow : Nat → Int32) (N : Nat) (P : Nat → Prop) : Prop := ∀ s, s < N → (ow s = 0 ∧ ¬ P s) ∨ (ow s = 1 ∧ P s)
theorem fi_on {ow : Nat → Int32} {N : Nat} {P : Nat → Prop} (h : fi_ow ow N P) {s : Nat} (hs : s < N) : ow s = 0 ↔ ¬ P s := by
  rcases h s hs with ⟨a, b⟩ | ⟨a, b⟩
  · exact ⟨fun _ => b, fun _ => a⟩
  · exact ⟨fun z => absurd (a.symm.trans z) (by decide), fun z => absurd b z⟩
theorem fx_fw {post : Int32 → Prop} (hz : fc_Z sz) {s k : Nat} (hs : s < fc_N sz) (hk : k < 2 ^ 31)
    (h1 : ∀ t, t < fc_N sz → dp t = nI k → ¬ ow t = 0 → ¬ mv (s * 125 + t) = 0 → (∀ t', t' < t → ¬ (dp t' = nI k ∧ ¬ ow t' = 0 ∧ ¬ mv (s * 125 + t') = 0)) → post (nI t))
    (h0 : (∀ t, t < fc_N sz → ¬ (dp t = nI k ∧ ¬ ow t = 0 ∧ ¬ mv (s * 125 + t) = 0)) → post (-1)) : wpX_firstOnWay post (tl, fc, sz, tk, ln, an, fa, sk, lw, hg, mv, en, dp, ca, rc, re, ho, ae, ta, ow, ts, fs) (nI s) (nI k) := by
  have hN := fc_N1 hz
  unfold wpX_firstOnWay
  refine fx_ns hz ?_
  refine pk_loop (fun n i (_ : Unit) => wX_firstOnWay_8 post (nI s) (nI k) (nI (fc_N sz)) tl fc sz tk ln an fa sk lw hg mv en dp ca rc re ho ae ta ow ts fs n (nI i)) (fun i _ => ∀ t, t < i → ¬ (dp t = nI k ∧ ¬ ow t = 0 ∧ ¬ mv (s * 125 + t) = 0)) (fc_N sz) 0 () (by omega) (fun t ht => absurd ht (by omega)) (fun n _ I => ?_) (fun n i _ hi I kk => ?_)
  · exact pk_le (fc_N sz) (fc_N sz) (fun _ => h0 I) (fun z => absurd z (by omega))
  · refine pk_le (fc_N sz) i (fun z => absurd z (by omega)) (fun _ => ?_)
    have hx : nI s * 125 + nI i = nI (s * 125 + i) := by rw [← nI_add, ← pk_mul]; rfl
    rw [hx, nI_clamp (by omega), nI_clamp (by omega)]
    have skip : ¬ (dp i = nI k ∧ ¬ ow i = 0 ∧ ¬ mv (s * 125 + i) = 0) → wX_firstOnWay_8 post (nI s) (nI k) (nI (fc_N sz)) tl fc sz tk ln an fa sk lw hg mv en dp ca rc re ho ae ta ow ts fs n (nI (i + 1)) := by
      intro q
      refine kk () (fun t ht => ?_)
      by_cases e : t = i
      · subst e; exact q
      · exact I t (by omega)
    refine ⟨vp_in_nI (by omega) (by omega), br_c (fun a => ⟨vp_in_nI (by omega) (by omega), br_c (fun b => nm_r (nI_1 i) (skip (fun q => q.2.1 b))) (fun b => ⟨vp_in_nI (by omega) (by omega), br_c (fun c => nm_r (nI_1 i) (skip (fun q => q.2.2 c))) (fun c => h1 i hi a b c I)⟩)⟩) (fun a => nm_r (nI_1 i) (skip (fun q => a q.1)))⟩
theorem fx_mw {post : SX → Prop} (hz : fc_Z sz) (ok : fc_ok tk ln 0) (hD : fg_D (fc_N sz) I0 st dp) (hm : ∀ s t, s < fc_N sz → t < fc_N sz → s ≠ t → (mv (s * 125 + t) = 0 ↔ ¬ st s t)) {d : Nat} (hd : d < 125) (hBr : ∀ s, Br s ↔ fc_w sz tk ln 0 s = 0)
    (hp : ∀ sk' ow', fi_ow ow' (fc_N sz) (fg_A (fc_N sz) I0 st Br d 0) → post (tl, fc, sz, tk, ln, an, fa, sk', lw, hg, mv, en, dp, ca, rc, re, ho, ae, ta, ow', ts, fs)) : wpX_markWaysToBreach post (tl, fc, sz, tk, ln, an, fa, sk, lw, hg, mv, en, dp, ca, rc, re, ho, ae, ta, ow, ts, fs) (nI d) := by
  have hN := fc_N1 hz
  have hL0 : fc_L ln 0 ≠ 0 := fun z => by have := ok.2; rw [z] at this; exact fc_ex0 this
  unfold wpX_markWaysToBreach
  refine fx_ns hz ?_
  refine pk_loop (fun n i p => wX_markWaysToBreach_7 post (nI d) (nI (fc_N sz)) n (nI i) tl fc sz tk ln an fa p.1 lw hg mv en dp ca rc re ho ae ta p.2 ts fs) (fun i (p : (Nat → Int32) × (Nat → Int32)) => fi_ow p.2 i (fg_A (fc_N sz) I0 st Br d d)) (fc_N sz) 0 (sk, ow) (by omega) (fun t ht => absurd ht (by omega)) (fun n p I => ?_) (fun n i p hi I k => ?_)
  · obtain ⟨sk, ow⟩ := p
    refine pk_le (fc_N sz) (fc_N sz) (fun _ => nm_r (fn_sub1 _) ?_) (fun z => absurd z (by omega))
    refine ⟨d + 1, pk_loopD (fun n k ow => wX_markWaysToBreach_52 post (nI (fc_N sz)) tl fc n (nI k + (-1)) sz tk ln an fa sk lw hg mv en dp ca rc re ho ae ta ow ts fs) (fun k ow => k ≤ d ∧ fi_ow ow (fc_N sz) (fg_A (fc_N sz) I0 st Br d k)) (fun n ow J => ?_) (fun n k ow J kk => ?_) d ow ⟨Nat.le_refl _, I⟩⟩
    · exact br_t (by decide) (hp sk ow J.2)
    · obtain ⟨J1, J2⟩ := J
      rw [pk_m1]
      refine br_f (nI_pos (by omega)) ?_
      refine pk_loop (fun n' i ow => wX_markWaysToBreach_59 post (wX_markWaysToBreach_52 post (nI (fc_N sz)) tl fc n) (nI (fc_N sz)) (nI k) tl fc n' (nI i) sz tk ln an fa sk lw hg mv en dp ca rc re ho ae ta ow ts fs) (fun i ow => fi_ow ow (fc_N sz) (fun s => (s < i ∧ fg_A (fc_N sz) I0 st Br d k s) ∨ (i ≤ s ∧ fg_A (fc_N sz) I0 st Br d (k + 1) s))) (fc_N sz) 0 ow (by omega) (fun s hs => ?_) (fun n' ow L => ?_) (fun n' i ow hi L k2 => ?_)
      · exact (J2 s hs).imp (fun q => ⟨q.1, fun w => w.elim (fun w => absurd w.1 (by omega)) (fun w => q.2 w.2)⟩) (fun q => ⟨q.1, Or.inr ⟨by omega, q.2⟩⟩)
      · refine pk_le (fc_N sz) (fc_N sz) (fun _ => nm_e (kk ow ⟨by omega, fun s hs => ?_⟩)) (fun z => absurd z (by omega))
        exact (L s hs).imp (fun q => ⟨q.1, fun w => q.2 (Or.inl ⟨hs, w⟩)⟩) (fun q => ⟨q.1, q.2.elim (fun w => w.2) (fun w => absurd w.1 (by omega))⟩)
      · refine pk_le (fc_N sz) i (fun z => absurd z (by omega)) (fun _ => ?_)
        rw [nI_clamp (by omega)]
        have hF := fg_Dd (d := k) (s := i) (by omega) hD hi (by omega)
        have fin : ∀ x, ((x = 0 ∧ ¬ fg_A (fc_N sz) I0 st Br d k i) ∨ (x = 1 ∧ fg_A (fc_N sz) I0 st Br d k i)) → wX_markWaysToBreach_59 post (wX_markWaysToBreach_52 post (nI (fc_N sz)) tl fc n) (nI (fc_N sz)) (nI k) tl fc n' (nI (i + 1)) sz tk ln an fa sk lw hg mv en dp ca rc re ho ae ta (upd ow i x) ts fs := by
          intro x hx
          refine k2 _ (fun s hs => ?_)
          by_cases e : s = i
          · subst e
            rw [pk_us]
            exact hx.imp (fun q => ⟨q.1, fun w => w.elim (fun w => q.2 w.2) (fun w => absurd w.1 (by omega))⟩) (fun q => ⟨q.1, Or.inl ⟨by omega, q.2⟩⟩)
          · rw [pk_un e]
            exact (L s hs).imp (fun q => ⟨q.1, fun w => q.2 (w.imp (fun w => ⟨by omega, w.2⟩) (fun w => ⟨by omega, w.2⟩))⟩) (fun q => ⟨q.1, q.2.imp (fun w => ⟨by omega, w.2⟩) (fun w => ⟨by omega, w.2⟩)⟩)
        refine ⟨vp_in_nI (by omega) (by omega), br_c (fun e => ?_) (fun e => nm_r (nI_1 i) (k2 ow (fun s hs => ?_)))⟩
        · have f := hF.mp e
          have key : ∀ t, t < fc_N sz → ((dp t = nI (k + 1) ∧ ¬ ow t = 0 ∧ ¬ mv (i * 125 + t) = 0) ↔ (fg_F (fc_N sz) I0 st (k + 1) t ∧ fg_A (fc_N sz) I0 st Br d (k + 1) t ∧ st i t)) := by
            intro t ht
            rw [fg_Dd (by omega) hD ht (by omega)]
            constructor
            · rintro ⟨a, b, c⟩
              have hne : i ≠ t := by rintro rfl; have := fg_Fu f a; omega
              have hnk : ¬ fg_F (fc_N sz) I0 st k t := fun w => by have := fg_Fu a w; omega
              rw [fi_on L ht] at b
              rw [hm i t hi ht hne] at c
              have b := Classical.byContradiction b
              refine ⟨a, ?_, Classical.byContradiction c⟩
              rcases b with b | b
              · exact (fg_An (by omega) hnk).mp b.2
              · exact b.2
            · rintro ⟨a, b, c⟩
              have hne : i ≠ t := by rintro rfl; have := fg_Fu f a; omega
              have hnk : ¬ fg_F (fc_N sz) I0 st k t := fun w => by have := fg_Fu a w; omega
              rw [fi_on L ht, hm i t hi ht hne]
              refine ⟨a, fun w => w ?_, fun w => w c⟩
              by_cases q : t < i
              · exact Or.inl ⟨q, (fg_An (by omega) hnk).mpr b⟩
              · exact Or.inr ⟨by omega, b⟩
          rw [nI_1 k, fn_b0, fn_b1]
          refine fx_fw hz hi (by omega) (fun t ht a b c _ => ?_) (fun no => ?_)
          · refine br_f (nI_pos (by omega)) ⟨vp_in_nI (by omega) (by omega), nm_e (nm_r (nI_1 i) (fin 1 (Or.inr ⟨rfl, (fg_Ak (by omega) f).mpr ?_⟩)))⟩
            obtain ⟨q1, q2, q3⟩ := (key t ht).mp ⟨a, b, c⟩
            exact ⟨t, ht, q1, q2, q3⟩
          · refine br_t (by decide) ⟨vp_in_nI (by omega) (by omega), nm_e (nm_r (nI_1 i) (fin 0 (Or.inl ⟨rfl, fun w => ?_⟩)))⟩
            obtain ⟨t, ht, q⟩ := (fg_Ak (by omega) f).mp w
            exact no t ht ((key t ht).mpr q)
        · have f : ¬ fg_F (fc_N sz) I0 st k i := fun w => e (hF.mpr w)
          have := fg_An (Br := Br) (en := d) (by omega) f
          by_cases q : s = i
          · subst q
            exact (L s hs).imp (fun q => ⟨q.1, fun w => q.2 (w.elim (fun w => Or.inr ⟨by omega, this.mp w.2⟩) (fun w => absurd w.1 (by omega)))⟩) (fun q => ⟨q.1, q.2.elim (fun w => absurd w.1 (by omega)) (fun w => Or.inl ⟨by omega, this.mpr w.2⟩)⟩)
          · exact (L s hs).imp (fun q => ⟨q.1, fun w => q.2 (w.imp (fun w => ⟨by omega, w.2⟩) (fun w => ⟨by omega, w.2⟩))⟩) (fun q => ⟨q.1, q.2.imp (fun w => ⟨by omega, w.2⟩) (fun w => ⟨by omega, w.2⟩)⟩)
  · obtain ⟨sk, ow⟩ := p
    refine pk_le (fc_N sz) i (fun z => absurd z (by omega)) (fun _ => ?_)
    rw [nI_clamp (by omega), fn_b0, fn_b1]
    have hF := fg_Dd (d := d) (s := i) (by omega) hD hi (by omega)
    have fin : ∀ sk' x, ((x = 0 ∧ ¬ fg_A (fc_N sz) I0 st Br d d i) ∨ (x = 1 ∧ fg_A (fc_N sz) I0 st Br d d i)) → wX_markWaysToBreach_7 post (nI d) (nI (fc_N sz)) n (nI (i + 1)) tl fc sz tk ln an fa sk' lw hg mv en dp ca rc re ho ae ta (upd ow i x) ts fs := by
      intro sk' x hx
      refine k (sk', _) (fun s hs => ?_)
      show (upd ow i x s = 0 ∧ _) ∨ (upd ow i x s = 1 ∧ _)
      by_cases e : s = i
      · subst e; rw [pk_us]; exact hx
      · rw [pk_un e]; exact I s (by omega)
    refine ⟨vp_in_nI (by omega) (by omega), br_c (fun e => ?_) (fun e => ⟨vp_in_nI (by omega) (by omega), nm_e (nm_r (nI_1 i) (fin sk 0 (Or.inl ⟨rfl, fun w => e (hF.mpr (fg_Ae.mp w).1)⟩)))⟩)⟩
    refine fx_is hz (j := 0) (by omega) (by omega) (Or.inr ok) ok.1.1 ok.1.2.1 (fun sk' => ?_)
    have etr : fc_tr sz tk ln 0 i = decide (fc_w sz tk ln 0 i ≠ 0) := by
      unfold fc_tr; rw [decide_eq_false hL0, Bool.false_or]
    rw [etr]
    by_cases b : fc_w sz tk ln 0 i = 0
    · exact br_t (by rw [decide_eq_false (fun q => q b)]; rfl) ⟨vp_in_nI (by omega) (by omega), nm_e (nm_r (nI_1 i) (fin sk' 1 (Or.inr ⟨rfl, fg_Ae.mpr ⟨hF.mp e, (hBr i).mpr b⟩⟩)))⟩
    · exact br_f (by rw [decide_eq_true b]; decide) ⟨vp_in_nI (by omega) (by omega), nm_e (nm_r (nI_1 i) (fin sk' 0 (Or.inl ⟨rfl, fun w => b ((hBr i).mp (fg_Ae.mp w).2)⟩)))⟩
end FXI
