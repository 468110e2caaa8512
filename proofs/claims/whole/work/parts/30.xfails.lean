section FXF
variable {tl fc : Int32} {sz tk ln an fa sk lw hg mv en dp ca rc : Nat → Int32} {re : Nat → Int64} {ho ae ta ow ts fs : Nat → Int32} {A : Nat → Prop}
theorem fh_un {N : Nat} {st : Nat → Nat → Prop} {A : Nat → Prop} {M : Nat → Nat → Nat → Bool} {E : Nat → Nat → Bool} {ft h : Nat → Nat} (H : fw_hm N st A h) {s : Nat} (hs : s < N) (hA : A s) :
    fw_un N st M E ft A s ↔ ∃ a, a < 4 ∧ ((ft a = 1 ∧ (E a (h s) = true ∧ ∀ s', s' < N → h s' = h s → E a s' = true)) ∨ (ft a ≠ 0 ∧ ft a ≠ 1 ∧ E a s = true)) ∧ ¬ ∃ x y, x < N ∧ y < N ∧ x ≠ y ∧ h x = h s ∧ h y = h s ∧ M a x y = true := by
  have tk : ∀ a, (∃ x y, x < N ∧ y < N ∧ x ≠ y ∧ h x = h s ∧ h y = h s ∧ M a x y = true) ↔ (∃ x y, x < N ∧ y < N ∧ x ≠ y ∧ M a x y = true ∧ fw_g N st A s x ∧ fw_g N st A s y) := by
    intro a
    constructor
    · rintro ⟨x, y, a1, a2, a3, a4, a5, a6⟩
      exact ⟨x, y, a1, a2, a3, a6, (fw_he H hs a1 hA).mp a4, (fw_he H hs a2 hA).mp a5⟩
    · rintro ⟨x, y, a1, a2, a3, a4, a5, a6⟩
      exact ⟨x, y, a1, a2, a3, (fw_he H hs a1 hA).mpr a5, (fw_he H hs a2 hA).mpr a6, a4⟩
  constructor
  · rintro ⟨a, ha, f0, e, al, nt⟩
    refine ⟨a, ha, ?_, fun w => nt ((tk a).mp w)⟩
    by_cases f1 : ft a = 1
    · refine Or.inl ⟨f1, ?_, fun s' hs' es => al f1 s' hs' ((fw_he H hs hs' hA).mp es)⟩
      have g := fw_h1 H hs hA
      exact al f1 _ (fw_in g.1).2.1 g
    · exact Or.inr ⟨f0, f1, e⟩
  · rintro ⟨a, ha, q, nt⟩
    refine ⟨a, ha, ?_⟩
    rcases q with ⟨f1, _, al⟩ | ⟨f0, f1, e⟩
    · exact ⟨by omega, al s hs rfl, fun _ t ht g => al t ht ((fw_he H hs ht hA).mpr g), fun w => nt ((tk a).mpr w)⟩
    · exact ⟨f0, e, fun w => absurd w f1, fun w => nt ((tk a).mpr w)⟩
def ff_t (ln fa : Nat → Int32) (a : Nat) : Nat := if fc_L ln (3 + a) = 0 then 0 else (fa a).toNatClampNeg
theorem ff_1 {ln fa : Nat → Int32} (Fa : fr_f fa) {a : Nat} (ha : a < 4) : ff_t ln fa a = 1 ↔ (fc_L ln (3 + a) ≠ 0 ∧ fa a = 1) := by
  unfold ff_t
  by_cases e : fc_L ln (3 + a) = 0
  · rw [if_pos e]
    exact ⟨fun z => absurd z (by decide), fun z => absurd e z.1⟩
  · rw [if_neg e]
    rcases Fa a ha with q | q | q <;> rw [q]
    · exact ⟨fun z => absurd z (by decide), fun z => absurd z.2 (by decide)⟩
    · exact ⟨fun _ => ⟨e, rfl⟩, fun _ => rfl⟩
    · exact ⟨fun z => absurd z (by decide), fun z => absurd z.2 (by decide)⟩
theorem ff_2 {ln fa : Nat → Int32} (Fa : fr_f fa) {a : Nat} (ha : a < 4) : (ff_t ln fa a ≠ 0 ∧ ff_t ln fa a ≠ 1) ↔ (fc_L ln (3 + a) ≠ 0 ∧ fa a = 2) := by
  unfold ff_t
  by_cases e : fc_L ln (3 + a) = 0
  · rw [if_pos e]
    exact ⟨fun z => absurd rfl z.1, fun z => absurd e z.1⟩
  · rw [if_neg e]
    rcases Fa a ha with q | q | q <;> rw [q]
    · exact ⟨fun z => absurd rfl z.1, fun z => absurd z.2 (by decide)⟩
    · exact ⟨fun z => absurd rfl z.2, fun z => absurd z.2 (by decide)⟩
    · exact ⟨fun _ => ⟨e, rfl⟩, fun _ => ⟨by decide, by decide⟩⟩
theorem fx_ru {post : Int32 → SX → Prop} (S : fx_S sz tk ln) (XX : ∀ s, s < fc_N sz → fx_mvs sz tk ln an mv s ∧ fb_4 (en s) (fun a => fc_en sz tk ln an a s)) (Fa : fr_f fa) (hA : fi_ow rc (fc_N sz) A)
    (hp : ∀ re' ho' ae' ta' rc' r, fi_ow rc' (fc_N sz) (fw_nx (fc_N sz) (fc_st sz tk ln an) (fc_M sz tk ln an) (fc_en sz tk ln an) (ff_t ln fa) A) → ((r = 0 ∧ ∀ s, s < fc_N sz → A s → ¬ fw_un (fc_N sz) (fc_st sz tk ln an) (fc_M sz tk ln an) (fc_en sz tk ln an) (ff_t ln fa) A s) ∨ (r = 1 ∧ ∃ s, s < fc_N sz ∧ A s ∧ fw_un (fc_N sz) (fc_st sz tk ln an) (fc_M sz tk ln an) (fc_en sz tk ln an) (ff_t ln fa) A s)) → post r (tl, fc, sz, tk, ln, an, fa, sk, lw, hg, mv, en, dp, ca, rc', re', ho', ae', ta', ow, ts, fs)) : wpX_removeUnfair post (tl, fc, sz, tk, ln, an, fa, sk, lw, hg, mv, en, dp, ca, rc, re, ho, ae, ta, ow, ts, fs) := by
  have hz := S.1
  have hN := fc_N1 hz
  unfold wpX_removeUnfair
  refine fx_c_recurring hz (fun s t hs ht e => fx_mz (XX s hs).1 ht e) hA (fun re' hR => ?_)
  refine fx_fh hz hR (fun ho' h H hh => ?_)
  refine fx_sh (E := fc_en sz tk ln an) (M := fc_M sz tk ln an) (h := h) hz (fun s hs => (XX s hs).2) (fun s t hs ht => (XX s hs).1 t ht) (fun s hs => ⟨hh s hs, (H s hs).1⟩) (fun ae' ta' hae hta => ?_)
  refine fx_af S (fun weak hw => fx_af S (fun strong hst => fx_ns hz ?_))
  generalize hU : fw_un (fc_N sz) (fc_st sz tk ln an) (fc_M sz tk ln an) (fc_en sz tk ln an) (ff_t ln fa) A = U at hp
  have key : ∀ s, s < fc_N sz → A s → (U s ↔ ¬ ((weak &&& ae' (h s)) &&& (ta' (h s) ^^^ (-1)) = 0 ∧ (strong &&& en s) &&& (ta' (h s) ^^^ (-1)) = 0)) := by
    intro s hs a
    have hle := (H s hs).1
    rw [← hU, fh_un H hs a, fp_z (fp_not (fp_and hw (hae (h s) (by omega))) (hta (h s) (by omega))), fp_z (fp_not (fp_and hst (fp_4 (XX s hs).2)) (hta (h s) (by omega)))]
    constructor
    · rintro ⟨b, hb, q, nt⟩ ⟨w1, w2⟩
      rcases q with ⟨f1, q⟩ | ⟨f0, f1, q⟩
      · exact w1 b hb ⟨⟨(ff_1 Fa hb).mp f1, q⟩, nt⟩
      · exact w2 b hb ⟨⟨(ff_2 Fa hb).mp ⟨f0, f1⟩, q⟩, nt⟩
    · intro w
      refine Classical.byContradiction (fun no => w ⟨fun b hb q => no ⟨b, hb, Or.inl ⟨(ff_1 Fa hb).mpr q.1.1, q.1.2⟩, q.2⟩, fun b hb q => no ⟨b, hb, Or.inr ?_, q.2⟩⟩)
      have := (ff_2 Fa hb).mpr q.1.1
      exact ⟨this.1, this.2, q.1.2⟩
  refine pk_loop (fun n i (p : Int32 × (Nat → Int32)) => wX_removeUnfair_39 post weak strong (nI (fc_N sz)) tl fc n p.1 (nI i) sz tk ln an fa sk lw hg mv en dp ca p.2 re' ho' ae' ta' ow ts fs) (fun i p => fi_ow p.2 (fc_N sz) (fun s => A s ∧ ¬ (s < i ∧ U s)) ∧ ((p.1 = 0 ∧ ∀ s, s < i → A s → ¬ U s) ∨ (p.1 = 1 ∧ ∃ s, s < i ∧ A s ∧ U s))) (fc_N sz) 0 (0, rc) (by omega) ⟨fun s hs => ?_, Or.inl ⟨rfl, fun s hs => absurd hs (by omega)⟩⟩ (fun n p I => ?_) (fun n i p hi I k => ?_)
  · exact (hA s hs).imp (fun q => ⟨q.1, fun w => q.2 w.1⟩) (fun q => ⟨q.1, q.2, fun w => absurd w.1 (by omega)⟩)
  · obtain ⟨x, rc⟩ := p
    obtain ⟨I1, I2⟩ := I
    refine pk_le (fc_N sz) (fc_N sz) (fun _ => ⟨?_, hp re' ho' ae' ta' rc x (fun s hs => ?_) I2⟩) (fun z => absurd z (by omega))
    · rcases I2 with ⟨e, _⟩ | ⟨e, _⟩
      · show narrow .boolean (.int x) = .int x
        rw [show x = 0 from e]; exact fn_n0
      · show narrow .boolean (.int x) = .int x
        rw [show x = 1 from e]; exact fn_n1
    · unfold fw_nx
      rw [hU]
      exact (I1 s hs).imp (fun q => ⟨q.1, fun w => q.2 ⟨w.1, fun z => w.2 z.2⟩⟩) (fun q => ⟨q.1, q.2.1, fun w => q.2.2 ⟨hs, w⟩⟩)
  · obtain ⟨x, rc⟩ := p
    obtain ⟨I1, I2⟩ := I
    have I1 : fi_ow rc (fc_N sz) (fun s => A s ∧ ¬ (s < i ∧ U s)) := I1
    have I2 : (x = 0 ∧ ∀ s, s < i → A s → ¬ U s) ∨ (x = 1 ∧ ∃ s, s < i ∧ A s ∧ U s) := I2
    refine pk_le (fc_N sz) i (fun z => absurd z (by omega)) (fun _ => ?_)
    have hri := fi_on I1 hi
    have stay : ¬ (A i ∧ U i) → wX_removeUnfair_39 post weak strong (nI (fc_N sz)) tl fc n x (nI (i + 1)) sz tk ln an fa sk lw hg mv en dp ca rc re' ho' ae' ta' ow ts fs := by
      intro q
      refine k (x, rc) ⟨fun s hs => ?_, ?_⟩
      · refine (I1 s hs).imp (fun w => ⟨w.1, fun z => w.2 ⟨z.1, fun y => z.2 ⟨by omega, y.2⟩⟩⟩) (fun w => ⟨w.1, w.2.1, fun z => ?_⟩)
        by_cases e : s = i
        · subst e; exact q ⟨w.2.1, z.2⟩
        · exact w.2.2 ⟨by omega, z.2⟩
      · rcases I2 with ⟨e, w⟩ | ⟨e, s, hs, w⟩
        · refine Or.inl ⟨e, fun s hs a u => ?_⟩
          by_cases ee : s = i
          · subst ee; exact q ⟨a, u⟩
          · exact w s (by omega) a u
        · exact Or.inr ⟨e, s, by omega, w⟩
    have out : A i → U i → wX_removeUnfair_116 post (wX_removeUnfair_39 post weak strong (nI (fc_N sz)) tl fc n) weak strong (nI (fc_N sz)) (nI i) tl fc sz tk ln an fa sk lw hg mv en dp ca rc re' ho' ae' ta' ow ts fs := by
      intro a u
      refine ⟨vp_in_nI (by omega) (by omega), ?_⟩
      rw [nI_clamp (by omega), fn_b0]
      refine nm_e (nm_r (nI_1 i) (k (1, _) ⟨fun s hs => ?_, Or.inr ⟨rfl, i, by omega, a, u⟩⟩))
      show (upd rc i 0 s = 0 ∧ _) ∨ (upd rc i 0 s = 1 ∧ _)
      by_cases e : s = i
      · subst e
        rw [pk_us]
        exact Or.inl ⟨rfl, fun w => w.2 ⟨by omega, u⟩⟩
      · rw [pk_un e]
        exact (I1 s hs).imp (fun w => ⟨w.1, fun z => w.2 ⟨z.1, fun y => z.2 ⟨by omega, y.2⟩⟩⟩) (fun w => ⟨w.1, w.2.1, fun z => w.2.2 ⟨by omega, z.2⟩⟩)
    have hle := (H i hi).1
    rw [nI_clamp (n := i) (by omega)]
    refine ⟨vp_in_nI (by omega) (by omega), br_c (fun z => nm_r (nI_1 i) (stay (fun w => hri.mp z ⟨w.1, fun y => absurd y.1 (by omega)⟩))) (fun z => ⟨vp_in_nI (by omega) (by omega), nm_r (hh i hi) ?_⟩)⟩
    have a : A i := (Classical.byContradiction (fun w => z (hri.mpr w)) : A i ∧ _).1
    have kk := key i hi a
    rw [nI_clamp (n := h i) (by omega)]
    refine ⟨vp_in_nI (by omega) (by omega), vp_in_nI (by omega) (by omega), nm_e ⟨vp_in_nI (by omega) (by omega), vp_in_nI (by omega) (by omega), nm_e ?_⟩⟩
    refine br_c (fun w1 => br_c (fun w2 => nm_r (nI_1 i) (stay (fun q => kk.mp q.2 ⟨w1, w2⟩))) (fun w2 => out a (kk.mpr (fun q => w2 q.2)))) (fun w1 => out a (kk.mpr (fun q => w1 q.1)))
/-! states kept in order -/
def fq_f (P : Nat → Prop) (n : Nat) (fs : Nat → Int32) : Prop := ∀ s, s < n → P s → fs (fg_cn P s) = nI s
theorem fq_ft {P : Nat → Prop} {n : Nat} {fs : Nat → Int32} (h : fq_f P n fs) (p : P n) : fq_f P (n + 1) (upd fs (fg_cn P n) (nI n)) := by
  intro s hs ps
  by_cases e : s = n
  · subst e; exact pk_us
  · have : fg_cn P s < fg_cn P n := by
      have h1 : fg_cn P (s + 1) = fg_cn P s + 1 := fg_cn_t ps
      have mono : ∀ a b, a ≤ b → fg_cn P a ≤ fg_cn P b := by
        intro a b hab
        induction b with
        | zero => rw [show a = 0 by omega]; exact Nat.le_refl _
        | succ b ih =>
          by_cases q : a = b + 1
          · rw [q]; exact Nat.le_refl _
          · have := ih (by omega)
            by_cases pb : P b
            · rw [fg_cn_t pb]; omega
            · rw [fg_cn_f pb]; omega
      have := mono (s + 1) n (by omega)
      omega
    rw [pk_un (by omega)]
    exact h s (by omega) ps
theorem fq_ff {P : Nat → Prop} {n : Nat} {fs : Nat → Int32} (h : fq_f P n fs) (p : ¬ P n) : fq_f P (n + 1) fs := by
  intro s hs ps
  by_cases e : s = n
  · subst e; exact absurd ps p
  · exact h s (by omega) ps
theorem fq_fx {P : Nat → Prop} : ∀ n j, j < fg_cn P n → ∃ s, s < n ∧ P s ∧ fg_cn P s = j := by
  intro n
  induction n with
  | zero => intro j hj; exact absurd hj (by show ¬ j < 0; omega)
  | succ n ih =>
    intro j hj
    by_cases p : P n
    · rw [fg_cn_t p] at hj
      by_cases e : j = fg_cn P n
      · exact ⟨n, by omega, p, e.symm⟩
      · obtain ⟨s, a, b⟩ := ih j (by omega)
        exact ⟨s, by omega, b⟩
    · rw [fg_cn_f p] at hj
      obtain ⟨s, a, b⟩ := ih j hj
      exact ⟨s, by omega, b⟩
theorem fq_fe {P : Nat → Prop} {n : Nat} {fs fd : Nat → Int32} (h : fq_f P n fs) (k : fq_f P n fd) : ∀ j, j < fg_cn P n → fs j = fd j := by
  intro j hj
  obtain ⟨s, a, b, c⟩ := fq_fx n j hj
  rw [← c, h s a b, k s a b]
end FXF
