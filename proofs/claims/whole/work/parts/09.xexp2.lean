section FXE2
variable {tl fc : Int32} {sz tk ln an fa sk lw hg mv en dp ca rc : Nat → Int32} {re : Nat → Int64} {ho ae ta ow ts fs : Nat → Int32}
theorem fx_Pi {l h : Nat → Nat} {s t : Nat} (hz : fc_Z sz) (ht : t < fc_N sz) (hh : ∀ v, v < 3 → h v < fc_z sz v) : fx_P sz s l h (h 2 + 1) 0 0 (s * 125 + t) ↔ (l 0 ≤ fc_v sz t 0 ∧ fc_v sz t 0 ≤ h 0) ∧ (l 1 ≤ fc_v sz t 1 ∧ fc_v sz t 1 ≤ h 1) ∧ (l 2 ≤ fc_v sz t 2 ∧ fc_v sz t 2 ≤ h 2) := by
  have h0 := hh 0 (by omega)
  have h1 := hh 1 (by omega)
  have h2 := hh 2 (by omega)
  constructor
  · rintro ⟨x', y', z', q1, q2, q3, q4, q5, q6, q7, q8⟩
    have e : t = fc_mk sz x' y' z' := by omega
    obtain ⟨k0, k1, k2⟩ := fc_mk_v (sz := sz) (x := x') (y := y') (z := z') (by omega) (by omega) (by omega)
    rw [e, k0, k1, k2]
    exact ⟨⟨q1, q2⟩, ⟨q3, q4⟩, q5, q6⟩
  · rintro ⟨⟨q1, q2⟩, ⟨q3, q4⟩, q5, q6⟩
    refine ⟨_, _, _, q1, q2, q3, q4, q5, q6, ?_, by omega⟩
    rw [fc_v_mk hz ht]
theorem fx_Pn {l h : Nat → Nat} {s s' t : Nat} (hz : fc_Z sz) (ht : t < 125) (e : s' ≠ s) (hh : ∀ v, v < 3 → h v < fc_z sz v) : ¬ fx_P sz s l h (h 2 + 1) 0 0 (s' * 125 + t) := by
  rintro ⟨x', y', z', q1, q2, q3, q4, q5, q6, q7, q8⟩
  have h0 := hh 0 (by omega)
  have h1 := hh 1 (by omega)
  have h2 := hh 2 (by omega)
  have := fc_mk_lt (sz := sz) (x := x') (y := y') (z := z') (by omega) (by omega) (by omega)
  have hN := fc_N1 hz
  omega
/-- rows ahead of s, and row s with the actions below a -/
def fx_row (sz tk ln an mv : Nat → Int32) (s a : Nat) : Prop := (∀ s', s' < s → fx_mvs sz tk ln an mv s') ∧ ∀ t, t < fc_N sz → fb_4 (mv (s * 125 + t)) (fun b => decide (b < a) && fc_M sz tk ln an b s t)
theorem fx_row4 {s : Nat} (h : fx_row sz tk ln an mv s 4) : ∀ s', s' < s + 1 → fx_mvs sz tk ln an mv s' := by
  intro s' hs'
  by_cases e : s' = s
  · subst e; exact fun t ht => fb_s4 (h.2 t ht)
  · exact h.1 s' (by omega)
theorem fx_rows {s a : Nat} {lw hg mv' : Nat → Int32} (hz : fc_Z sz) (hs : s < fc_N sz) (ha : a < 4) (g : fc_g sz tk ln a s = true) (hb : ∀ v, v < 3 → fx_bx sz tk ln an a s lw hg v) (l h : Nat → Nat)
    (hlh : ∀ v, v < 3 → lw v = nI (l v) ∧ hg v = nI (h v) ∧ l v ≤ h v ∧ h v < fc_z sz v) (hr : fx_row sz tk ln an mv s a) (ho : fc_or ((1 : Int32) <<< (nI a &&& 31)) (fx_P sz s l h (h 2 + 1) 0 0) mv mv') : fx_row sz tk ln an mv' s (a + 1) := by
  have hN := fc_N1 hz
  have hh : ∀ v, v < 3 → h v < fc_z sz v := fun v hv => (hlh v hv).2.2.2
  refine ⟨fun s' hs' t ht => ?_, fun t ht => ?_⟩
  · rcases ho (s' * 125 + t) with ⟨p, _⟩ | ⟨_, e⟩
    · exact absurd p (fx_Pn hz (by omega) (by omega) hh)
    · rw [e]; exact hr.1 s' hs' t ht
  · have hal : ∀ v, v < 3 → (fc_al sz tk ln an a v s (fc_v sz t v) = true ↔ l v ≤ fc_v sz t v ∧ fc_v sz t v ≤ h v) := by
      intro v hv
      obtain ⟨l', h', e1, e2, e3, e4, e5⟩ := hb v hv
      obtain ⟨f1, f2, f3, f4⟩ := hlh v hv
      have z5 := (hz v hv).2.2
      rw [f1, nI_eq (by omega) (by omega)] at e1
      rw [f2, nI_eq (by omega) (by omega)] at e2
      rw [e1, e2]
      exact e5 _ (fc_vlt hz t hv)
    have hM : fx_P sz s l h (h 2 + 1) 0 0 (s * 125 + t) ↔ fc_M sz tk ln an a s t = true := by
      rw [fx_Pi hz ht hh, ← hal 0 (by omega), ← hal 1 (by omega), ← hal 2 (by omega)]
      unfold fc_M
      rw [g, Bool.true_and, Bool.and_eq_true, Bool.and_eq_true]
    rcases ho (s * 125 + t) with ⟨p, e⟩ | ⟨p, e⟩
    · rw [e]; exact fb_st ha (hr.2 t ht) (hM.mp p)
    · rw [e]
      refine fb_sf (hr.2 t ht) ?_
      cases q : fc_M sz tk ln an a s t
      · rfl
      · exact absurd (hM.mpr q) p
theorem fx_rowf {s a : Nat} (g : fc_g sz tk ln a s = false) (hr : fx_row sz tk ln an mv s a) : fx_row sz tk ln an mv s (a + 1) := by
  refine ⟨hr.1, fun t ht => fb_sf (hr.2 t ht) ?_⟩
  unfold fc_M; rw [g, Bool.false_and]
def fx_ens (sz tk ln an en : Nat → Int32) (s : Nat) : Prop := ∀ s', s' < s → fb_4 (en s') (fun a => fc_en sz tk ln an a s')
theorem fx_ex {post : SX → Prop} (S : fx_S sz tk ln)
    (hp : ∀ sk' lw' hg' mv' en' dp', fx_X sz tk ln an mv' en' dp' → post (tl, fc, sz, tk, ln, an, fa, sk', lw', hg', mv', en', dp', ca, rc, re, ho, ae, ta, ow, ts, fs)) : wpX_explore post (tl, fc, sz, tk, ln, an, fa, sk, lw, hg, mv, en, dp, ca, rc, re, ho, ae, ta, ow, ts, fs) := by
  have hz := S.1
  have hN := fc_N1 hz
  unfold wpX_explore
  refine fx_ns hz ?_
  refine pk_loop (fun n i p => wX_explore_7 post (nI (fc_N sz)) n (nI i) tl fc sz tk ln an fa p.1 p.2.1 p.2.2.1 p.2.2.2.1 p.2.2.2.2 dp ca rc re ho ae ta ow ts fs) (fun i (p : (Nat → Int32) × (Nat → Int32) × (Nat → Int32) × (Nat → Int32) × (Nat → Int32)) => (∀ s, s < i → fx_mvs sz tk ln an p.2.2.2.1 s) ∧ fx_ens sz tk ln an p.2.2.2.2 i) (fc_N sz) 0 (sk, lw, hg, mv, en) (by omega) ⟨fun v hv => absurd hv (by omega), fun v hv => absurd hv (by omega)⟩ (fun n p I => ?_) (fun n i p hi I k => ?_)
  · obtain ⟨sk, lw, hg, mv, en⟩ := p
    refine pk_le (fc_N sz) (fc_N sz) (fun _ => ?_) (fun z => absurd z (by omega))
    exact fx_fd S I.1 (fun sk' dp' hd => hp sk' lw hg mv en dp' ⟨fun s hs => ⟨I.1 s hs, I.2 s hs⟩, hd⟩)
  · obtain ⟨sk, lw, hg, mv, en⟩ := p
    obtain ⟨I1, I2⟩ := I
    refine pk_le (fc_N sz) i (fun z => absurd z (by omega)) (fun _ => ?_)
    refine pk_loop (fun n' t m => wX_explore_14 post (wX_explore_7 post (nI (fc_N sz)) n) (nI (fc_N sz)) (nI i) tl fc n' (nI t) sz tk ln an fa sk lw hg m en dp ca rc re ho ae ta ow ts fs) (fun t m => (∀ s, s < i → fx_mvs sz tk ln an m s) ∧ ∀ t', t' < t → m (i * 125 + t') = 0) (fc_N sz) 0 mv (by omega) ⟨I1, fun v hv => absurd hv (by omega)⟩ (fun n' m J => ?_) (fun n' t m ht J k2 => ?_)
    · refine pk_le (fc_N sz) (fc_N sz) (fun _ => ?_) (fun z => absurd z (by omega))
      refine fx_tg S (by omega) (fun sk' r hr => ?_)
      refine pk_loop (fun n' a p => wX_explore_46 post (wX_explore_7 post (nI (fc_N sz)) n) (nI (fc_N sz)) (nI i) r n' (nI a) tl fc sz tk ln an fa p.1 p.2.1 p.2.2.1 p.2.2.2 en dp ca rc re ho ae ta ow ts fs) (fun a (p : (Nat → Int32) × (Nat → Int32) × (Nat → Int32) × (Nat → Int32)) => fx_row sz tk ln an p.2.2.2 i a) 4 0 (sk', lw, hg, m) (by omega) ⟨J.1, fun t ht => ?_⟩ (fun n' p K => ?_) (fun n' a p ha K k2 => ?_)
      · show fb_4 (m (i * 125 + t)) _
        rw [J.2 t ht]; exact fb_s0
      · obtain ⟨sk, lw, hg, mv⟩ := p
        refine br_t (by decide) ⟨vp_in_nI (by omega) (by omega), ?_⟩
        rw [nI_clamp (by omega)]
        refine nm_e ?_
        refine pk_loop (fun n' t e => wX_explore_92 post (wX_explore_7 post (nI (fc_N sz)) n) (nI (fc_N sz)) (nI i) tl fc n' (nI t) sz tk ln an fa sk lw hg mv e dp ca rc re ho ae ta ow ts fs) (fun t e => fx_ens sz tk ln an e i ∧ fb_4 (e i) (fun a => fc_ek (fc_M sz tk ln an) a i t)) (fc_N sz) 0 (upd en i 0) (by omega) ⟨fun s hs => ?_, ?_⟩ (fun n' e L => ?_) (fun n' t e ht L k3 => ?_)
        · rw [pk_un (by omega)]; exact I2 s hs
        · rw [pk_us]; exact fb_0
        · refine pk_le (fc_N sz) (fc_N sz) (fun _ => nm_r (nI_1 i) (k (sk, lw, hg, mv, e) ⟨fx_row4 K, fun s hs => ?_⟩)) (fun z => absurd z (by omega))
          by_cases q : s = i
          · subst q; exact L.2
          · exact L.1 s (by omega)
        · refine pk_le (fc_N sz) t (fun z => absurd z (by omega)) (fun _ => ⟨vp_in_nI (by omega) (by omega), ?_⟩)
          have hx : nI i * 125 + nI t = nI (i * 125 + t) := by rw [← nI_add, ← pk_mul]; rfl
          rw [hx, nI_clamp (by omega), nI_clamp (by omega)]
          have fin : ∀ x, fb_4 x (fun a => fc_ek (fc_M sz tk ln an) a i (t + 1)) → wX_explore_92 post (wX_explore_7 post (nI (fc_N sz)) n) (nI (fc_N sz)) (nI i) tl fc n' (nI (t + 1)) sz tk ln an fa sk lw hg mv (upd e i x) dp ca rc re ho ae ta ow ts fs := by
            intro x hx
            refine k3 _ ⟨fun s hs => ?_, ?_⟩
            · rw [pk_un (by omega)]; exact L.1 s hs
            · rw [pk_us]; exact hx
          refine pk_eq t i (fun q => ⟨vp_in_nI (by omega) (by omega), nm_e (nm_r (nI_1 t) (fin _ ?_))⟩) (fun q => ⟨vp_in_nI (by omega) (by omega), vp_in_nI (by omega) (by omega), nm_e (nm_r (nI_1 t) (fin _ ?_))⟩)
          · refine fb_cg (fb_or L.2 fb_0) (fun a _ => ?_)
            show (_ || false) = (_ || (decide (t ≠ i) && _))
            rw [decide_eq_false (fun w => w q), Bool.false_and]
          · refine fb_cg (fb_or L.2 (fb_s4 (K.2 t ht))) (fun a _ => ?_)
            show (_ || _) = (_ || (decide (t ≠ i) && _))
            rw [decide_eq_true q, Bool.true_and]
      · obtain ⟨sk, lw, hg, mv⟩ := p
        refine pk_le 4 a (fun z => absurd z (by omega)) (fun _ => ?_)
        refine br_c (fun z => ?_) (fun z => nm_r (nI_1 a) (k2 (sk, lw, hg, mv) (fx_rowf ?_ K)))
        · have g := (fb_t1 hr ha).mp z
          refine fx_bt S ha (by omega) (fun sk2 lw2 hg2 hb => ?_)
          obtain ⟨l0, h0, q0⟩ := hb 0 (by omega)
          obtain ⟨l1, h1, q1⟩ := hb 1 (by omega)
          obtain ⟨l2, h2, q2⟩ := hb 2 (by omega)
          have hlh : ∀ v, v < 3 → lw2 v = nI ((fun v => if v = 0 then l0 else if v = 1 then l1 else l2) v) ∧ hg2 v = nI ((fun v => if v = 0 then h0 else if v = 1 then h1 else h2) v) ∧ (fun v => if v = 0 then l0 else if v = 1 then l1 else l2) v ≤ (fun v => if v = 0 then h0 else if v = 1 then h1 else h2) v ∧ (fun v => if v = 0 then h0 else if v = 1 then h1 else h2) v < fc_z sz v := by
            intro v hv
            rcases (show v = 0 ∨ v = 1 ∨ v = 2 by omega) with rfl | rfl | rfl
            · exact ⟨q0.1, q0.2.1, q0.2.2.1, q0.2.2.2.1⟩
            · exact ⟨q1.1, q1.2.1, q1.2.2.1, q1.2.2.2.1⟩
            · exact ⟨q2.1, q2.2.1, q2.2.2.1, q2.2.2.2.1⟩
          refine fx_am hz ha (by omega) _ _ hlh (fun mv2 ho => ?_)
          exact nm_r (nI_1 a) (k2 (sk2, lw2, hg2, mv2) (fx_rows hz hi ha g hb _ _ hlh K ho))
        · cases q : fc_g sz tk ln a i
          · rfl
          · exact absurd ((fb_t1 hr ha).mpr q) z
    · refine pk_le (fc_N sz) t (fun z => absurd z (by omega)) (fun _ => ?_)
      have hx : nI i * 125 + nI t = nI (i * 125 + t) := by rw [← nI_add, ← pk_mul]; rfl
      rw [hx, nI_clamp (by omega)]
      refine ⟨vp_in_nI (by omega) (by omega), nm_e (nm_r (nI_1 t) (k2 _ ⟨fun s hs t' ht' => ?_, fun t' ht' => ?_⟩))⟩
      · rw [pk_un (by omega)]; exact J.1 s hs t' ht'
      · by_cases q : t' = t
        · subst q; rw [pk_us]
        · rw [pk_un (by omega)]; exact J.2 t' (by omega)
end FXE2
