section FXH
variable {tl fc : Int32} {sz tk ln an fa sk lw hg mv en dp ca rc : Nat → Int32} {re : Nat → Int64} {ho ae ta ow ts fs : Nat → Int32} {st : Nat → Nat → Prop} {A : Nat → Prop}
/-! an Int32 as a set of actions -/
def fb_P (x : Int32) (P : Nat → Prop) : Prop := ∃ f : Nat → Bool, fb_4 x f ∧ ∀ a, a < 4 → (f a = true ↔ P a)
theorem fp_4 {x : Int32} {f : Nat → Bool} (h : fb_4 x f) : fb_P x (fun a => f a = true) := ⟨f, h, fun _ _ => Iff.rfl⟩
theorem fp_c {x : Int32} {P Q : Nat → Prop} (h : fb_P x P) (e : ∀ a, a < 4 → (P a ↔ Q a)) : fb_P x Q := by
  obtain ⟨f, a, b⟩ := h
  exact ⟨f, a, fun i hi => (b i hi).trans (e i hi)⟩
theorem fp_0 : fb_P 0 (fun _ => False) := ⟨_, fb_0, fun _ _ => ⟨fun z => absurd z (by decide), fun z => z.elim⟩⟩
theorem fp_or {x y : Int32} {P Q : Nat → Prop} (h : fb_P x P) (k : fb_P y Q) : fb_P (x ||| y) (fun a => P a ∨ Q a) := by
  obtain ⟨f, a, b⟩ := h
  obtain ⟨g, c, d⟩ := k
  exact ⟨_, fb_or a c, fun i hi => by rw [Bool.or_eq_true, b i hi, d i hi]⟩
theorem fp_and {x y : Int32} {P Q : Nat → Prop} (h : fb_P x P) (k : fb_P y Q) : fb_P (x &&& y) (fun a => P a ∧ Q a) := by
  obtain ⟨f, a, b⟩ := h
  obtain ⟨g, c, d⟩ := k
  exact ⟨_, fb_and a c, fun i hi => by rw [Bool.and_eq_true, b i hi, d i hi]⟩
theorem fp_not {x y : Int32} {P Q : Nat → Prop} (h : fb_P x P) (k : fb_P y Q) : fb_P (x &&& (y ^^^ (-1))) (fun a => P a ∧ ¬ Q a) := by
  obtain ⟨f, a, b⟩ := h
  obtain ⟨g, c, d⟩ := k
  refine ⟨_, fb_not a c, fun i hi => ?_⟩
  rw [Bool.and_eq_true, b i hi, Bool.not_eq_true']
  show P i ∧ g i = false ↔ P i ∧ ¬ Q i
  rw [← d i hi]
  cases g i <;> simp
theorem fp_z {x : Int32} {P : Nat → Prop} (h : fb_P x P) : x = 0 ↔ ∀ a, a < 4 → ¬ P a := by
  obtain ⟨f, a, b⟩ := h
  rw [fb_z a]
  constructor
  · intro q i hi w
    have := (b i hi).mpr w
    rw [q i hi] at this; cases this
  · intro q i hi
    cases e : f i
    · rfl
    · exact absurd ((b i hi).mp e) (q i hi)
/-! homes -/
def fh_1 (N : Nat) (st : Nat → Nat → Prop) (A : Nat → Prop) (s k hh : Nat) : Prop := hh ≤ s ∧ (hh = s ∨ fw_g N st A s hh) ∧ ∀ t, k ≤ t → t < hh → ¬ fw_g N st A s t
theorem fx_fh {post : SX → Prop} (hz : fc_Z sz) (hR : ∀ s t, s < fc_N sz → t < fc_N sz → (fl_h re (s * 2) t = true ↔ fw_W (fc_N sz) st A (fc_N sz) s t))
    (hp : ∀ ho' h, fw_hm (fc_N sz) st A h → (∀ s, s < fc_N sz → ho' s = nI (h s)) → post (tl, fc, sz, tk, ln, an, fa, sk, lw, hg, mv, en, dp, ca, rc, re, ho', ae, ta, ow, ts, fs)) : wpX_findHomes post (tl, fc, sz, tk, ln, an, fa, sk, lw, hg, mv, en, dp, ca, rc, re, ho, ae, ta, ow, ts, fs) := by
  have hN := fc_N1 hz
  unfold wpX_findHomes
  refine fx_ns hz ?_
  refine pk_loop (fun n i ho => wX_findHomes_7 post (nI (fc_N sz)) tl fc n (nI i) sz tk ln an fa sk lw hg mv en dp ca rc re ho ae ta ow ts fs) (fun i ho => ∀ s, s < i → ∃ hh, ho s = nI hh ∧ fh_1 (fc_N sz) st A s 0 hh) (fc_N sz) 0 ho (by omega) (fun s hs => absurd hs (by omega)) (fun n ho I => ?_) (fun n i ho hi I k => ?_)
  · refine pk_le (fc_N sz) (fc_N sz) (fun _ => hp ho (fun s => (ho s).toNatClampNeg) (fun s hs => ?_) (fun s hs => ?_)) (fun z => absurd z (by omega))
    · obtain ⟨hh, e, q⟩ := I s hs
      have e2 : (ho s).toNatClampNeg = hh := by rw [e, nI_clamp (by have := q.1; omega)]
      show (ho s).toNatClampNeg ≤ s ∧ ((ho s).toNatClampNeg = s ∨ fw_g (fc_N sz) st A s (ho s).toNatClampNeg) ∧ ∀ t, t < (ho s).toNatClampNeg → ¬ fw_g (fc_N sz) st A s t
      rw [e2]
      exact ⟨q.1, q.2.1, fun t ht => q.2.2 t (by omega) ht⟩
    · obtain ⟨hh, e, q⟩ := I s hs
      show ho s = nI (ho s).toNatClampNeg
      rw [e, nI_clamp (by have := q.1; omega)]
  · refine pk_le (fc_N sz) i (fun z => absurd z (by omega)) (fun _ => ?_)
    rw [nI_clamp (by omega)]
    refine ⟨vp_in_nI (by omega) (by omega), nm_e (nm_r (fn_sub1 _) ?_)⟩
    refine ⟨i + 1, pk_loopD (fun n' k ho => wX_findHomes_23 post (wX_findHomes_7 post (nI (fc_N sz)) tl fc n) (nI (fc_N sz)) (nI i) tl fc n' (nI k + (-1)) sz tk ln an fa sk lw hg mv en dp ca rc re ho ae ta ow ts fs) (fun k ho => k ≤ i ∧ (∀ s, s < i → ∃ hh, ho s = nI hh ∧ fh_1 (fc_N sz) st A s 0 hh) ∧ ∃ hh, ho i = nI hh ∧ fh_1 (fc_N sz) st A i k hh) (fun n' ho J => ?_) (fun n' t ho J kk => ?_) i _ ⟨Nat.le_refl _, fun s hs => ?_, i, pk_us, Nat.le_refl _, Or.inl rfl, fun t a b => absurd a (by omega)⟩⟩
    · refine br_t (by decide) (nm_r (nI_1 i) (k ho (fun s hs => ?_)))
      by_cases e : s = i
      · subst e; exact J.2.2
      · exact J.2.1 s (by omega)
    · obtain ⟨J1, J2, hh, J3, J4⟩ := J
      rw [pk_m1]
      refine br_f (nI_pos (by omega)) ?_
      have skip : ¬ fw_g (fc_N sz) st A i t → wX_findHomes_23 post (wX_findHomes_7 post (nI (fc_N sz)) tl fc n) (nI (fc_N sz)) (nI i) tl fc n' (nI t + (-1)) sz tk ln an fa sk lw hg mv en dp ca rc re ho ae ta ow ts fs := by
        intro q
        refine kk ho ⟨by omega, J2, hh, J3, J4.1, J4.2.1, fun t' a b => ?_⟩
        by_cases e : t' = t
        · rw [e]; exact q
        · exact J4.2.2 t' (by omega) b
      refine fx_re (by omega) (by omega) (fun a => br_f (by decide) (fx_re (by omega) (by omega) (fun b => br_f (by decide) ?_) (fun b => br_t rfl (nm_e (skip (fun w => ?_)))))) (fun a => br_t rfl (nm_e (skip (fun w => ?_))))
      · rw [nI_clamp (n := i) (by omega)]
        have g : fw_g (fc_N sz) st A i t := ⟨(hR i t hi (by omega)).mp a, (hR t i (by omega) hi).mp b⟩
        refine ⟨vp_in_nI (by omega) (by omega), nm_e (nm_e (kk _ ⟨by omega, fun s hs => ?_, t, pk_us, by omega, Or.inr g, fun t' a b => absurd a (by omega)⟩))⟩
        rw [pk_un (by omega)]; exact J2 s hs
      · rw [(hR t i (by omega) hi).mpr w.2] at b; cases b
      · rw [(hR i t hi (by omega)).mpr w.1] at a; cases a
    · rw [pk_un (by omega)]; exact I s hs
/-! what a component always has enabled, and what it takes -/
theorem fx_sh {post : SX → Prop} {E : Nat → Nat → Bool} {M : Nat → Nat → Nat → Bool} {h : Nat → Nat} (hz : fc_Z sz) (hE : ∀ s, s < fc_N sz → fb_4 (en s) (fun a => E a s)) (hM : ∀ s t, s < fc_N sz → t < fc_N sz → fb_4 (mv (s * 125 + t)) (fun a => M a s t)) (hh : ∀ s, s < fc_N sz → ho s = nI (h s) ∧ h s ≤ s)
    (hp : ∀ ae' ta', (∀ x, x < fc_N sz → fb_P (ae' x) (fun a => E a x = true ∧ ∀ s, s < fc_N sz → h s = x → E a s = true)) → (∀ x, x < fc_N sz → fb_P (ta' x) (fun a => ∃ s t, s < fc_N sz ∧ t < fc_N sz ∧ s ≠ t ∧ h s = x ∧ h t = x ∧ M a s t = true)) → post (tl, fc, sz, tk, ln, an, fa, sk, lw, hg, mv, en, dp, ca, rc, re, ho, ae', ta', ow, ts, fs)) : wpX_sumUpHomes post (tl, fc, sz, tk, ln, an, fa, sk, lw, hg, mv, en, dp, ca, rc, re, ho, ae, ta, ow, ts, fs) := by
  have hN := fc_N1 hz
  unfold wpX_sumUpHomes
  refine fx_ns hz ?_
  refine pk_loop (fun n i (p : (Nat → Int32) × (Nat → Int32)) => wX_sumUpHomes_7 post (nI (fc_N sz)) tl fc n (nI i) sz tk ln an fa sk lw hg mv en dp ca rc re ho p.1 p.2 ow ts fs) (fun i p => ∀ x, x < i → p.1 x = en x ∧ p.2 x = 0) (fc_N sz) 0 (ae, ta) (by omega) (fun s hs => absurd hs (by omega)) (fun n p I => ?_) (fun n i p hi I k => ?_)
  · obtain ⟨ae, ta⟩ := p
    have I : ∀ x, x < fc_N sz → ae x = en x ∧ ta x = 0 := I
    refine pk_le (fc_N sz) (fc_N sz) (fun _ => ?_) (fun z => absurd z (by omega))
    refine pk_loop (fun n i (p : (Nat → Int32) × (Nat → Int32)) => wX_sumUpHomes_39 post (nI (fc_N sz)) tl fc n (nI i) sz tk ln an fa sk lw hg mv en dp ca rc re ho p.1 p.2 ow ts fs) (fun i p => (∀ x, x < fc_N sz → fb_P (p.1 x) (fun a => E a x = true ∧ ∀ s, s < i → h s = x → E a s = true)) ∧ ∀ x, x < fc_N sz → fb_P (p.2 x) (fun a => ∃ s t, s < i ∧ t < fc_N sz ∧ s ≠ t ∧ h s = x ∧ h t = x ∧ M a s t = true)) (fc_N sz) 0 (ae, ta) (by omega) ⟨fun x hx => ?_, fun x hx => ?_⟩ (fun n p J => ?_) (fun n i p hi J k => ?_)
    · show fb_P (ae x) _
      rw [(I x hx).1]
      exact fp_c (fp_4 (hE x hx)) (fun a _ => ⟨fun q => ⟨q, fun s hs => absurd hs (by omega)⟩, fun q => q.1⟩)
    · show fb_P (ta x) _
      rw [(I x hx).2]
      exact fp_c fp_0 (fun a _ => ⟨fun q => q.elim, fun ⟨s, t, hs, _⟩ => absurd hs (by omega)⟩)
    · obtain ⟨ae, ta⟩ := p
      exact pk_le (fc_N sz) (fc_N sz) (fun _ => hp ae ta J.1 J.2) (fun z => absurd z (by omega))
    · obtain ⟨ae, ta⟩ := p
      obtain ⟨J1, J2⟩ := J
      have J1 : ∀ x, x < fc_N sz → fb_P (ae x) (fun a => E a x = true ∧ ∀ s, s < i → h s = x → E a s = true) := J1
      have J2 : ∀ x, x < fc_N sz → fb_P (ta x) (fun a => ∃ s t, s < i ∧ t < fc_N sz ∧ s ≠ t ∧ h s = x ∧ h t = x ∧ M a s t = true) := J2
      refine pk_le (fc_N sz) i (fun z => absurd z (by omega)) (fun _ => ?_)
      rw [nI_clamp (by omega)]
      obtain ⟨eh, hle⟩ := hh i hi
      refine ⟨vp_in_nI (by omega) (by omega), nm_r eh ?_⟩
      rw [nI_clamp (by omega)]
      refine ⟨vp_in_nI (by omega) (by omega), vp_in_nI (by omega) (by omega), vp_in_nI (by omega) (by omega), nm_e ?_⟩
      have K1 : ∀ x, x < fc_N sz → fb_P (upd ae (h i) (ae (h i) &&& en i) x) (fun a => E a x = true ∧ ∀ s, s < i + 1 → h s = x → E a s = true) := by
        intro x hx
        by_cases e : x = h i
        · rw [e, pk_us]
          refine fp_c (fp_and (J1 (h i) (by omega)) (fp_4 (hE i hi))) (fun a _ => ⟨fun q => ⟨q.1.1, fun s hs es => ?_⟩, fun q => ⟨⟨q.1, fun s hs => q.2 s (by omega)⟩, q.2 i (by omega) rfl⟩⟩)
          by_cases ee : s = i
          · rw [ee]; exact q.2
          · exact q.1.2 s (by omega) es
        · rw [pk_un e]
          refine fp_c (J1 x hx) (fun a _ => ⟨fun q => ⟨q.1, fun s hs es => ?_⟩, fun q => ⟨q.1, fun s hs => q.2 s (by omega)⟩⟩)
          by_cases ee : s = i
          · rw [ee] at es; exact absurd es.symm e
          · exact q.2 s (by omega) es
      generalize upd ae (h i) (ae (h i) &&& en i) = ae' at K1
      refine pk_loop (fun n' t ta => wX_sumUpHomes_69 post (wX_sumUpHomes_39 post (nI (fc_N sz)) tl fc n) (nI (fc_N sz)) (nI i) (nI (h i)) tl fc n' (nI t) sz tk ln an fa sk lw hg mv en dp ca rc re ho ae' ta ow ts fs) (fun t ta => ∀ x, x < fc_N sz → fb_P (ta x) (fun a => (∃ s t, s < i ∧ t < fc_N sz ∧ s ≠ t ∧ h s = x ∧ h t = x ∧ M a s t = true) ∨ (x = h i ∧ ∃ t', t' < t ∧ t' ≠ i ∧ h t' = x ∧ M a i t' = true))) (fc_N sz) 0 ta (by omega) (fun x hx => ?_) (fun n' ta L => ?_) (fun n' t ta ht L k2 => ?_)
      · exact fp_c (J2 x hx) (fun a _ => ⟨fun q => Or.inl q, fun q => q.elim id (fun ⟨_, t', ht', _⟩ => absurd ht' (by omega))⟩)
      · refine pk_le (fc_N sz) (fc_N sz) (fun _ => nm_r (nI_1 i) (k (ae', ta) ⟨K1, fun x hx => fp_c (L x hx) (fun a _ => ⟨fun q => ?_, fun q => ?_⟩)⟩)) (fun z => absurd z (by omega))
        · rcases q with ⟨s, t, a1, a2, a3⟩ | ⟨ex, t, a1, a2, a3, a4⟩
          · exact ⟨s, t, by omega, a2, a3⟩
          · exact ⟨i, t, by omega, a1, Ne.symm a2, ex.symm, a3, a4⟩
        · obtain ⟨s, t, a1, a2, a3, a4, a5, a6⟩ := q
          by_cases e : s = i
          · subst e
            exact Or.inr ⟨a4.symm, t, a2, Ne.symm a3, a5, a6⟩
          · exact Or.inl ⟨s, t, by omega, a2, a3, a4, a5, a6⟩
      · refine pk_le (fc_N sz) t (fun z => absurd z (by omega)) (fun _ => ?_)
        have skip : (t = i ∨ h t ≠ h i) → wX_sumUpHomes_69 post (wX_sumUpHomes_39 post (nI (fc_N sz)) tl fc n) (nI (fc_N sz)) (nI i) (nI (h i)) tl fc n' (nI (t + 1)) sz tk ln an fa sk lw hg mv en dp ca rc re ho ae' ta ow ts fs := by
          intro q
          refine k2 ta (fun x hx => fp_c (L x hx) (fun a _ => ⟨fun w => w.imp id (fun ⟨e, t', a1, a2⟩ => ⟨e, t', by omega, a2⟩), fun w => w.imp id (fun ⟨e, t', a1, a2, a3, a4⟩ => ⟨e, t', ?_, a2, a3, a4⟩)⟩))
          by_cases ee : t' = t
          · subst ee
            rcases q with q | q
            · exact absurd q a2
            · exact absurd (a3.trans e) q
          · omega
        obtain ⟨et, htle⟩ := hh t ht
        have hx : nI i * 125 + nI t = nI (i * 125 + t) := by rw [← nI_add, ← pk_mul]; rfl
        rw [hx, nI_clamp (n := t) (by omega), nI_clamp (n := h i) (by omega), nI_clamp (by omega)]
        refine pk_eq t i (fun e => nm_r (nI_1 t) (skip (Or.inl e))) (fun e => ⟨vp_in_nI (by omega) (by omega), pk_eq (h t) (h i) (fun e2 => ?_) (fun e2 => nm_r (nI_1 t) (skip (Or.inr e2))) et⟩)
        refine ⟨vp_in_nI (by omega) (by omega), vp_in_nI (by omega) (by omega), vp_in_nI (by omega) (by omega), nm_e (nm_r (nI_1 t) (k2 _ (fun x hx => ?_)))⟩
        by_cases ex : x = h i
        · subst ex
          rw [pk_us]
          refine fp_c (fp_or (L (h i) (by omega)) (fp_4 (hM i t hi ht))) (fun a _ => ⟨fun w => ?_, fun w => ?_⟩)
          · rcases w with (w | ⟨_, t', a1, a2⟩) | w
            · exact Or.inl w
            · exact Or.inr ⟨rfl, t', by omega, a2⟩
            · exact Or.inr ⟨rfl, t, by omega, e, e2, w⟩
          · rcases w with w | ⟨_, t', a1, a2, a3, a4⟩
            · exact Or.inl (Or.inl w)
            · by_cases ee : t' = t
              · subst ee; exact Or.inr a4
              · exact Or.inl (Or.inr ⟨rfl, t', by omega, a2, a3, a4⟩)
        · rw [pk_un ex]
          exact fp_c (L x hx) (fun a _ => ⟨fun w => w.imp id (fun w => absurd w.1 ex), fun w => w.imp id (fun w => absurd w.1 ex)⟩)
  · obtain ⟨ae, ta⟩ := p
    have I : ∀ x, x < i → ae x = en x ∧ ta x = 0 := I
    refine pk_le (fc_N sz) i (fun z => absurd z (by omega)) (fun _ => ?_)
    rw [nI_clamp (by omega)]
    refine ⟨vp_in_nI (by omega) (by omega), vp_in_nI (by omega) (by omega), nm_e ⟨vp_in_nI (by omega) (by omega), nm_e (nm_r (nI_1 i) (k (_, _) (fun x hx => ?_)))⟩⟩
    show upd ae i (en i) x = _ ∧ upd ta i 0 x = _
    by_cases e : x = i
    · subst e; exact ⟨pk_us, pk_us⟩
    · rw [pk_un e, pk_un e]; exact I x (by omega)
theorem fx_af {post : Int32 → Prop} (S : fx_S sz tk ln) {q : Int32} (hp : ∀ r, fb_P r (fun a => fc_L ln (3 + a) ≠ 0 ∧ fa a = q) → post r) : wpX_actionsWithFairness post (tl, fc, sz, tk, ln, an, fa, sk, lw, hg, mv, en, dp, ca, rc, re, ho, ae, ta, ow, ts, fs) q := by
  refine pk_loop (fun n i x => wX_actionsWithFairness_4 post q tl fc sz tk ln an fa sk lw hg mv en dp ca rc re ho ae ta ow ts fs n x (nI i)) (fun i x => fb_4 x (fun a => decide (a < i) && (decide (fc_L ln (3 + a) ≠ 0) && decide (fa a = q)))) 4 0 0 (by omega) fb_s0 (fun n x I => ?_) (fun n i x hi I k => ?_)
  · refine br_t (by decide) (hp x (fp_c (fp_4 (fb_s4 I)) (fun a _ => ?_)))
    rw [Bool.and_eq_true, decide_eq_true_iff, decide_eq_true_iff]
  · refine pk_le 4 i (fun z => absurd z (by omega)) (fun _ => ?_)
    obtain ⟨h1, h2, h3⟩ := S.2.2 (3 + i) (by omega) (by omega)
    rw [nI_clamp (by omega)]
    refine fx_it hi h1 h2 (fun z => br_f (by decide) ⟨vp_in_nI hi (by omega), br_c (fun w => nm_e (nm_r (nI_1 i) (k _ (fb_st hi I ?_)))) (fun w => nm_r (nI_1 i) (k _ (fb_sf I ?_)))⟩) (fun z => br_t rfl (nm_r (nI_1 i) (k _ (fb_sf I ?_))))
    · rw [decide_eq_true z, decide_eq_true w]; rfl
    · rw [decide_eq_false w, Bool.and_false]
    · rw [decide_eq_false (fun q => q z), Bool.false_and]
end FXH
