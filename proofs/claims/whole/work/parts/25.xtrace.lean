section FXT
variable {tl fc : Int32} {sz tk ln an fa sk lw hg mv en dp ca rc : Nat → Int32} {re : Nat → Int64} {ho ae ta ow ts fs : Nat → Int32} {I0 : Nat → Prop} {st : Nat → Nat → Prop} {Br : Nat → Prop}
/-- a row of states as kept in an array -/
def fi_T (N : Nat) (I0 : Nat → Prop) (st : Nat → Nat → Prop) (Br : Nat → Prop) (d m : Nat) (ts : Nat → Int32) (T : Nat → Nat) : Prop :=
  fg_tr N I0 st Br d T m ∧ ∀ j, j ≤ m → T j < N ∧ ts j = nI (T j)
theorem fi_T0 {N d s : Nat} {ts : Nat → Int32} (h : fg_t0 N I0 st Br d s) : fi_T N I0 st Br d 0 (upd ts 0 (nI s)) (fun _ => s) := by
  refine ⟨⟨h, fun k hk => absurd hk (by omega)⟩, fun j hj => ⟨fg_Flt h.1.1, ?_⟩⟩
  rw [show j = 0 by omega, pk_us]
theorem fi_Ts {N d m t : Nat} {ts : Nat → Int32} {T : Nat → Nat} (h : fi_T N I0 st Br d m ts T) (k : fg_t1 N I0 st Br d m (T m) t) : fi_T N I0 st Br d (m + 1) (upd ts (m + 1) (nI t)) (fun j => if j = m + 1 then t else T j) := by
  obtain ⟨⟨h0, h1⟩, h2⟩ := h
  refine ⟨⟨?_, fun i hi => ?_⟩, fun j hj => ?_⟩
  · show fg_t0 N I0 st Br d (if 0 = m + 1 then t else T 0)
    rw [if_neg (by omega)]; exact h0
  · show fg_t1 N I0 st Br d i (if i = m + 1 then t else T i) (if i + 1 = m + 1 then t else T (i + 1))
    rw [if_neg (by omega)]
    by_cases e : i = m
    · subst e; rw [if_pos rfl]; exact k
    · rw [if_neg (by omega)]; exact h1 i (by omega)
  · show (if j = m + 1 then t else T j) < N ∧ upd ts (m + 1) (nI t) j = nI (if j = m + 1 then t else T j)
    by_cases e : j = m + 1
    · rw [if_pos e, e, pk_us]; exact ⟨fg_Flt k.1.1, rfl⟩
    · rw [if_neg e, pk_un e]; exact h2 j (by omega)
/-- the state at place m is on a way and of depth m -/
theorem fi_Tm {N d m : Nat} {ts : Nat → Int32} {T : Nat → Nat} (h : fi_T N I0 st Br d m ts T) : fg_F N I0 st m (T m) ∧ fg_A N I0 st Br d 0 (T m) := by
  cases m with
  | zero => exact h.1.1.1
  | succ m =>
    have := h.1.2 m (by omega)
    exact ⟨this.1.1, this.1.2.1⟩
theorem fi_nx {N d m : Nat} {ts : Nat → Int32} {T : Nat → Nat} (hm : m < d) (h : fi_T N I0 st Br d m ts T) : ∃ t, t < N ∧ fg_F N I0 st (m + 1) t ∧ fg_A N I0 st Br d 0 t ∧ st (T m) t := by
  obtain ⟨a, b⟩ := fi_Tm h
  obtain ⟨t, ht, f, g, e⟩ := (fg_Ak hm a).mp ((fg_A0 a).mp b)
  exact ⟨t, ht, f, (fg_A0 f).mpr g, e⟩
theorem fx_kt {post : SX → Prop} (hz : fc_Z sz) (hD : fg_D (fc_N sz) I0 st dp) (hm : ∀ s t, s < fc_N sz → t < fc_N sz → s ≠ t → (mv (s * 125 + t) = 0 ↔ ¬ st s t)) {d : Nat} (hd : d < 125) (hO : fi_ow ow (fc_N sz) (fg_A (fc_N sz) I0 st Br d 0)) (hx : ∃ s, fg_F (fc_N sz) I0 st d s ∧ Br s)
    (hp : ∀ ts' T, fi_T (fc_N sz) I0 st Br d d ts' T → post (nI (d + 1), fc, sz, tk, ln, an, fa, sk, lw, hg, mv, en, dp, ca, rc, re, ho, ae, ta, ow, ts', fs)) : wpX_keepFirstTrace post (tl, fc, sz, tk, ln, an, fa, sk, lw, hg, mv, en, dp, ca, rc, re, ho, ae, ta, ow, ts, fs) (nI d) := by
  have hN := fc_N1 hz
  have hP : ∀ t, t < fc_N sz → ((dp t = 0 ∧ ¬ ow t = 0) ↔ (fg_F (fc_N sz) I0 st 0 t ∧ fg_A (fc_N sz) I0 st Br d 0 t)) := by
    intro t ht
    rw [fi_on hO ht]
    have := fg_Dd (d := 0) (by omega) hD ht (by omega)
    exact ⟨fun q => ⟨this.mp q.1, Classical.byContradiction q.2⟩, fun q => ⟨this.mpr q.1, fun w => w q.2⟩⟩
  unfold wpX_keepFirstTrace
  refine fx_ns hz (nm_r (fn_sub1 _) ?_)
  refine ⟨fc_N sz + 1, pk_loopD (fun n k x => wX_keepFirstTrace_12 post (nI d) tl fc sz tk ln an fa sk lw hg mv en dp ca rc re ho ae ta ow ts fs n x (nI k + (-1))) (fun k x => k ≤ fc_N sz ∧ ((∃ t, k ≤ t ∧ t < fc_N sz ∧ (dp t = 0 ∧ ¬ ow t = 0) ∧ x = nI t ∧ ∀ t', k ≤ t' → t' < t → ¬ (dp t' = 0 ∧ ¬ ow t' = 0)) ∨ ∀ t, k ≤ t → t < fc_N sz → ¬ (dp t = 0 ∧ ¬ ow t = 0))) (fun n x J => ?_) (fun n k x J kk => ?_) (fc_N sz) 0 ⟨Nat.le_refl _, Or.inr (fun t a b => absurd a (by omega))⟩⟩
  · obtain ⟨_, J⟩ := J
    have h0 : ∃ s, fg_t0 (fc_N sz) I0 st Br d s ∧ x = nI s := by
      rcases J with ⟨t, _, ht, q, e, l⟩ | no
      · exact ⟨t, ⟨(hP t ht).mp q, fun t' ht' w => l t' (by omega) ht' ((hP t' (by omega)).mpr w)⟩, e⟩
      · obtain ⟨s, hs⟩ := fg_wx hx d (Nat.le_refl _)
        have f := fg_wF hs
        rw [Nat.sub_self] at f
        exact absurd ((hP s (fg_Flt f)).mpr ⟨f, d, by omega, hs⟩) (no s (by omega) (fg_Flt f))
    obtain ⟨s, ht0, rfl⟩ := h0
    refine br_t (by decide) (nm_e ?_)
    refine pk_loop (fun n i p => wX_keepFirstTrace_56 post (nI d) tl fc n p.1 (nI i) sz tk ln an fa sk lw hg mv en dp ca rc re ho ae ta ow p.2 fs) (fun i (p : Int32 × (Nat → Int32)) => 1 ≤ i ∧ ∃ T, fi_T (fc_N sz) I0 st Br d (i - 1) p.2 T ∧ p.1 = nI (T (i - 1))) (d + 1) 1 (nI s, upd ts 0 (nI s)) (by omega) ⟨Nat.le_refl _, (fun _ => s), fi_T0 ht0, rfl⟩ (fun n p L => ?_) (fun n i p hi L k2 => ?_)
    · obtain ⟨x, ts⟩ := p
      obtain ⟨_, T, hT, _⟩ := L
      refine pk_lt d (d + 1) (fun _ => nm_r (nI_1 d) (hp ts T hT)) (fun z => absurd z (by omega))
    · obtain ⟨x, ts⟩ := p
      obtain ⟨h1, T, hT0, ex0⟩ := L
      obtain ⟨m, rfl⟩ : ∃ m, i = m + 1 := ⟨i - 1, by omega⟩
      have hT : fi_T (fc_N sz) I0 st Br d m ts T := hT0
      have ex : x = nI (T m) := ex0
      subst ex
      obtain ⟨fm, am⟩ := fi_Tm hT
      have hTm := fg_Flt fm
      refine pk_lt d (m + 1) (fun z => absurd z (by omega)) (fun _ => ?_)
      have key : ∀ t, t < fc_N sz → ((dp t = nI (m + 1) ∧ ¬ ow t = 0 ∧ ¬ mv (T m * 125 + t) = 0) ↔ (fg_F (fc_N sz) I0 st (m + 1) t ∧ fg_A (fc_N sz) I0 st Br d 0 t ∧ st (T m) t)) := by
        intro t ht
        rw [fg_Dd (by omega) hD ht (by omega), fi_on hO ht]
        constructor
        · rintro ⟨a, b, c⟩
          have hne : T m ≠ t := by intro e; rw [e] at fm; have := fg_Fu fm a; omega
          rw [hm _ t hTm ht hne] at c
          exact ⟨a, Classical.byContradiction b, Classical.byContradiction c⟩
        · rintro ⟨a, b, c⟩
          have hne : T m ≠ t := by intro e; rw [e] at fm; have := fg_Fu fm a; omega
          rw [hm _ t hTm ht hne]
          exact ⟨a, fun w => w b, fun w => w c⟩
      refine fx_fw hz hTm (by omega) (fun t ht a b c l => ?_) (fun no => ?_)
      · rw [nI_clamp (by omega)]
        have q := (key t ht).mp ⟨a, b, c⟩
        refine ⟨vp_in_nI (by omega) (by omega), nm_e (nm_r (nI_1 (m + 1)) (k2 (nI t, _) ⟨by omega, _, fi_Ts hT ⟨q, fun t' ht' w => l t' ht' ((key t' (by omega)).mpr w)⟩, ?_⟩))⟩
        show nI t = nI (if m + 1 = m + 1 then t else _)
        rw [if_pos rfl]
      · obtain ⟨t, ht, q⟩ := fi_nx (by omega) hT
        exact absurd ((key t ht).mpr q) (no t ht)
  · obtain ⟨J1, J⟩ := J
    rw [pk_m1]
    have skip : ¬ (dp k = 0 ∧ ¬ ow k = 0) → wX_keepFirstTrace_12 post (nI d) tl fc sz tk ln an fa sk lw hg mv en dp ca rc re ho ae ta ow ts fs n x (nI k + (-1)) := by
      intro q
      refine kk x ⟨by omega, ?_⟩
      rcases J with ⟨t, a, ht, b, c, l⟩ | no
      · refine Or.inl ⟨t, by omega, ht, b, c, fun t' h1 h2 => ?_⟩
        by_cases e : t' = k
        · rw [e]; exact q
        · exact l t' (by omega) h2
      · refine Or.inr (fun t h1 h2 => ?_)
        by_cases e : t = k
        · rw [e]; exact q
        · exact no t (by omega) h2
    refine br_f (nI_pos (by omega)) ?_
    rw [nI_clamp (n := k) (by omega)]
    refine ⟨vp_in_nI (by omega) (by omega), br_c (fun a => ⟨vp_in_nI (by omega) (by omega), br_c (fun b => nm_e (skip (fun q => q.2 b))) (fun b => nm_e (kk (nI k) ⟨by omega, Or.inl ⟨k, Nat.le_refl _, by omega, ⟨a, b⟩, rfl, fun t' h1 h2 => absurd h1 (by omega)⟩⟩))⟩) (fun a => nm_e (skip (fun q => a q.1)))⟩
end FXT
