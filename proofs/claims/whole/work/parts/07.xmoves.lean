section FXM
variable {tl fc : Int32} {sz tk ln an fa sk lw hg mv en dp ca rc : Nat → Int32} {re : Nat → Int64} {ho ae ta ow ts fs : Nat → Int32}
def fx_S (sz tk ln : Nat → Int32) : Prop := fc_Z sz ∧ fc_sh tk ln 0 ∧ ∀ j, 1 ≤ j → j < 19 → ln j = nI (fc_L ln j) ∧ fc_L ln j ≤ 12 ∧ (fc_L ln j = 0 ∨ fc_ok tk ln j)
theorem fb_st {x : Int32} {g : Nat → Bool} {i : Nat} (hi : i < 4) (h : fb_4 x (fun a => decide (a < i) && g a)) (k : g i = true) : fb_4 (x ||| ((1 : Int32) <<< (nI i &&& 31))) (fun a => decide (a < i + 1) && g a) := by
  refine fb_cg (fb_or h (fb_1 hi)) (fun a _ => ?_)
  by_cases e : a = i
  · subst e; simp [k]
  · rw [decide_eq_false e, Bool.or_false]
    congr 1
    exact decide_eq_decide.mpr (by omega)
theorem fb_sf {x : Int32} {g : Nat → Bool} {i : Nat} (h : fb_4 x (fun a => decide (a < i) && g a)) (k : g i = false) : fb_4 x (fun a => decide (a < i + 1) && g a) := by
  refine fb_cg h (fun a _ => ?_)
  by_cases e : a = i
  · subst e; simp [k]
  · congr 1
    exact decide_eq_decide.mpr (by omega)
theorem fb_s4 {x : Int32} {g : Nat → Bool} (h : fb_4 x (fun a => decide (a < 4) && g a)) : fb_4 x g := fb_cg h (fun a ha => by simp [ha])
theorem fb_s0 {g : Nat → Bool} : fb_4 0 (fun a => decide (a < 0) && g a) := fb_cg fb_0 (fun a _ => by simp)
theorem fx_tg {post : Int32 → SX → Prop} (S : fx_S sz tk ln) {s : Nat} (hs : s < 2 ^ 31)
    (hp : ∀ sk' r, fb_4 r (fun a => fc_g sz tk ln a s) → post r (tl, fc, sz, tk, ln, an, fa, sk', lw, hg, mv, en, dp, ca, rc, re, ho, ae, ta, ow, ts, fs)) : wpX_trueGuards post (tl, fc, sz, tk, ln, an, fa, sk, lw, hg, mv, en, dp, ca, rc, re, ho, ae, ta, ow, ts, fs) (nI s) := by
  refine pk_loop (fun n i p => wX_trueGuards_4 post (nI s) n p.1 (nI i) tl fc sz tk ln an fa p.2 lw hg mv en dp ca rc re ho ae ta ow ts fs) (fun i (p : Int32 × (Nat → Int32)) => fb_4 p.1 (fun a => decide (a < i) && fc_g sz tk ln a s)) 4 0 (0, sk) (by omega) fb_s0 (fun n p I => ?_) (fun n i p hi I k => ?_)
  · obtain ⟨r, sk⟩ := p
    exact br_t (by decide) (hp sk r (fb_s4 I))
  · obtain ⟨r, sk⟩ := p
    refine pk_le 4 i (fun z => absurd z (by omega)) (fun _ => ?_)
    obtain ⟨h1, h2, h3⟩ := S.2.2 (3 + i) (by omega) (by omega)
    have hx : 3 + nI i = nI (3 + i) := by rw [← nI_add]; rfl
    refine fx_it hi h1 h2 (fun z => br_f (by decide) ?_) (fun z => br_t rfl ?_)
    · rw [hx]
      refine fx_wk S.1 (by omega) hs (h3.resolve_left z) (fun sk' => br_c (fun w => ?_) (fun w => ?_))
      · refine nm_r (nI_1 i) (k (r, sk') (fb_sf I ?_))
        simp [fc_g, w]
      · refine nm_e (nm_r (nI_1 i) (k (_, sk') (fb_st hi I ?_)))
        simp [fc_g, w, z]
    · refine nm_r (nI_1 i) (k (r, sk) (fb_sf I ?_))
      simp [fc_g, z]
/-! the box of an action's targets -/
def fx_bx (sz tk ln an : Nat → Int32) (a s : Nat) (lw hg : Nat → Int32) (v : Nat) : Prop :=
  ∃ l h, lw v = nI l ∧ hg v = nI h ∧ l ≤ h ∧ h < fc_z sz v ∧ ∀ x, x < fc_z sz v → (fc_al sz tk ln an a v s x = true ↔ l ≤ x ∧ x ≤ h)
theorem fx_bxu {a s v w : Nat} {x y : Int32} (h : fx_bx sz tk ln an a s lw hg v) (e : v ≠ w) : fx_bx sz tk ln an a s (upd lw w x) (upd hg w y) v := by
  obtain ⟨l, m, h1, h2, h3⟩ := h
  exact ⟨l, m, (pk_un e).trans h1, (pk_un e).trans h2, h3⟩
theorem fx_b1 {a s v k : Nat} (hk : k < fc_z sz v) (h : ∀ x, x < fc_z sz v → (fc_al sz tk ln an a v s x = true ↔ x = k)) : fx_bx sz tk ln an a s (upd lw v (nI k)) (upd hg v (nI k)) v :=
  ⟨k, k, pk_us, pk_us, Nat.le_refl _, hk, fun x hx => (h x hx).trans (by omega)⟩
theorem fx_bt {post : SX → Prop} (S : fx_S sz tk ln) {a s : Nat} (ha : a < 4) (hs : s < 2 ^ 31)
    (hp : ∀ sk' lw' hg', (∀ v, v < 3 → fx_bx sz tk ln an a s lw' hg' v) → post (tl, fc, sz, tk, ln, an, fa, sk', lw', hg', mv, en, dp, ca, rc, re, ho, ae, ta, ow, ts, fs)) : wpX_boundTargets post (tl, fc, sz, tk, ln, an, fa, sk, lw, hg, mv, en, dp, ca, rc, re, ho, ae, ta, ow, ts, fs) (nI a) (nI s) := by
  refine pk_loop (fun n i p => wX_boundTargets_2 post (nI a) (nI s) n (nI i) tl fc sz tk ln an fa p.1 p.2.1 p.2.2 mv en dp ca rc re ho ae ta ow ts fs) (fun i (p : (Nat → Int32) × (Nat → Int32) × (Nat → Int32)) => ∀ v, v < i → fx_bx sz tk ln an a s p.2.1 p.2.2 v) 3 0 (sk, lw, hg) (by omega) (fun v hv => absurd hv (by omega)) (fun n p I => ?_) (fun n i p hi I k => ?_)
  · obtain ⟨sk, lw, hg⟩ := p
    exact br_t (by decide) (hp sk lw hg I)
  · obtain ⟨sk, lw, hg⟩ := p
    refine pk_le 3 i (fun z => absurd z (by omega)) (fun _ => ?_)
    obtain ⟨h1, h2, h3⟩ := S.2.2 (7 + (a * 3 + i)) (by omega) (by omega)
    obtain ⟨z1, z2, z3⟩ := S.1 i hi
    have hx : nI a * 3 + nI i = nI (a * 3 + i) := by rw [← nI_add, ← pk_mul]; rfl
    have h7 : 7 + nI (a * 3 + i) = nI (7 + (a * 3 + i)) := nI_add 7 _
    have h0 : ¬ sz i = 0 := by rw [z1]; exact nI_ne0 (by omega) (by omega)
    have fin : ∀ sk' x y, fx_bx sz tk ln an a s (upd lw i x) (upd hg i y) i → wX_boundTargets_2 post (nI a) (nI s) n (nI (i + 1)) tl fc sz tk ln an fa sk' (upd lw i x) (upd hg i y) mv en dp ca rc re ho ae ta ow ts fs := by
      intro sk' x y h
      refine k (sk', upd lw i x, upd hg i y) (fun v hv => ?_)
      by_cases e : v = i
      · subst e; exact h
      · exact fx_bxu (I v (by omega)) e
    refine nm_r hx ?_
    rw [h7, nI_clamp (by omega), nI_clamp (by omega)]
    refine ⟨vp_in_nI (by omega) (by omega), ?_⟩
    refine pk_le (fc_L ln (7 + (a * 3 + i))) 0 (fun z => ?_) (fun z => ?_) h1
    · refine ⟨vp_in_nI (by omega) (by omega), ?_⟩
      refine br_c (fun e => ?_) (fun e => ?_)
      · refine fx_vi S.1 hs hi ⟨vp_in_nI hi (by omega), ?_⟩
        rw [nI_clamp (by omega)]
        refine nm_e ⟨vp_in_nI hi (by omega), vp_in_nI hi (by omega), ?_⟩
        refine nm_r (e' := upd hg i (nI (fc_v sz s i))) (by rw [pk_us]) (nm_r (nI_1 i) (fin sk _ _ ?_))
        refine fx_b1 (fc_vlt S.1 s hi) (fun x hx => ?_)
        unfold fc_al
        rw [if_neg (fun q => q (by omega)), if_pos e, decide_eq_true_iff]
      · refine ⟨vp_in_nI hi (by omega), ?_⟩
        rw [nI_clamp (by omega)]
        refine nm_e ⟨vp_in_nI hi (by omega), vp_in_nI hi (by omega), ?_⟩
        have hm : sz i - 1 = nI (fc_z sz i - 1) := by
          rw [z1]; exact pk_sub (b := 1) z2
        refine nm_r (e' := upd hg i (nI (fc_z sz i - 1))) (by rw [hm]) (nm_r (nI_1 i) (fin sk _ _ ?_))
        refine ⟨0, fc_z sz i - 1, pk_us, pk_us, by omega, by omega, fun x hx => ?_⟩
        unfold fc_al
        rw [if_neg (fun q => q (by omega)), if_neg e]
        exact ⟨fun _ => by omega, fun _ => rfl⟩
    · refine fx_wk S.1 (by omega) hs (h3.resolve_left (by omega)) (fun sk' => ?_)
      rw [nI_clamp (n := i) (by omega)]
      refine ⟨vp_in_nI hi (by omega), h0, ?_⟩
      obtain ⟨q, hq, eq⟩ := fc_rdr (fc_w sz tk ln (7 + (a * 3 + i)) s) z2 z3
      rw [← z1] at eq
      have hb : fx_bx sz tk ln an a s (upd lw i (nI q)) (upd hg i (nI q)) i := by
        refine fx_b1 hq (fun x hx => ?_)
        unfold fc_al
        rw [if_pos (by omega), eq, decide_eq_true_iff, nI_eq (by omega) (by omega)]
      unfold fc_rd at eq
      have fin2 : wX_boundTargets_70 post (wX_boundTargets_2 post (nI a) (nI s) n) (nI a) (nI s) (nI i) (nI q) (nI i) tl fc sz tk ln an fa sk' lw hg mv en dp ca rc re ho ae ta ow ts fs := by
        refine ⟨vp_in_nI hi (by omega), ?_⟩
        rw [nI_clamp (by omega)]
        refine nm_e ⟨vp_in_nI hi (by omega), vp_in_nI hi (by omega), ?_⟩
        refine nm_r (e' := upd hg i (nI q)) (by rw [pk_us]) (nm_r (nI_1 i) (fin sk' _ _ hb))
      refine nm_e (br_c (fun w => ?_) (fun w => ⟨vp_in_nI hi (by omega), ?_⟩))
      · rw [if_pos w] at eq
        rw [eq]; exact fin2
      · rw [if_neg w] at eq
        rw [eq]; exact fin2
/-! moves are added over the box -/
def fc_or (b : Int32) (P : Nat → Prop) (m m' : Nat → Int32) : Prop := ∀ i, (P i ∧ m' i = m i ||| b) ∨ (¬ P i ∧ m' i = m i)
theorem fc_or0 {b : Int32} {P : Nat → Prop} {m : Nat → Int32} (h : ∀ i, ¬ P i) : fc_or b P m m := fun i => Or.inr ⟨h i, rfl⟩
theorem fc_orc {b : Int32} {P Q : Nat → Prop} {m m' : Nat → Int32} (h : fc_or b P m m') (e : ∀ i, P i ↔ Q i) : fc_or b Q m m' := fun i =>
  (h i).elim (fun z => Or.inl ⟨(e i).mp z.1, z.2⟩) (fun z => Or.inr ⟨fun q => z.1 ((e i).mpr q), z.2⟩)
theorem fc_or1 {b : Int32} {P Q : Nat → Prop} {m m' : Nat → Int32} {j : Nat} (h : fc_or b P m m') (e : ∀ i, Q i ↔ (P i ∨ i = j)) : fc_or b Q m (upd m' j (m' j ||| b)) := by
  intro i
  by_cases z : i = j
  · subst z
    refine Or.inl ⟨(e i).mpr (Or.inr rfl), ?_⟩
    rw [pk_us]
    rcases h i with ⟨_, k⟩ | ⟨_, k⟩
    · rw [k, Int32.or_assoc, Int32.or_self]
    · rw [k]
  · rw [pk_un z]
    rcases h i with ⟨p, k⟩ | ⟨p, k⟩
    · exact Or.inl ⟨(e i).mpr (Or.inl p), k⟩
    · exact Or.inr ⟨fun q => ((e i).mp q).elim p z, k⟩
def fx_P (sz : Nat → Int32) (s : Nat) (l h : Nat → Nat) (z y x i : Nat) : Prop :=
  ∃ x' y' z', l 0 ≤ x' ∧ x' ≤ h 0 ∧ l 1 ≤ y' ∧ y' ≤ h 1 ∧ l 2 ≤ z' ∧ z' ≤ h 2 ∧ i = s * 125 + fc_mk sz x' y' z' ∧ (z' < z ∨ (z' = z ∧ (y' < y ∨ (y' = y ∧ x' < x))))
theorem fx_am {post : SX → Prop} (hz : fc_Z sz) {a s : Nat} (ha : a < 4) (hs : s < 125) (l h : Nat → Nat) (hb : ∀ v, v < 3 → lw v = nI (l v) ∧ hg v = nI (h v) ∧ l v ≤ h v ∧ h v < fc_z sz v)
    (hp : ∀ mv', fc_or ((1 : Int32) <<< (nI a &&& 31)) (fx_P sz s l h (h 2 + 1) 0 0) mv mv' → post (tl, fc, sz, tk, ln, an, fa, sk, lw, hg, mv', en, dp, ca, rc, re, ho, ae, ta, ow, ts, fs)) : wpX_addMoves post (tl, fc, sz, tk, ln, an, fa, sk, lw, hg, mv, en, dp, ca, rc, re, ho, ae, ta, ow, ts, fs) (nI a) (nI s) := by
  obtain ⟨a1, a2, a3, a4⟩ := hb 0 (by omega)
  obtain ⟨b1, b2, b3, b4⟩ := hb 1 (by omega)
  obtain ⟨c1, c2, c3, c4⟩ := hb 2 (by omega)
  obtain ⟨za1, za2, za3⟩ := hz 0 (by omega)
  obtain ⟨zb1, zb2, zb3⟩ := hz 1 (by omega)
  obtain ⟨zc1, zc2, zc3⟩ := hz 2 (by omega)
  have hN := fc_N1 hz
  refine nm_r c1 ?_
  refine pk_loop (fun n i m => wX_addMoves_7 post (nI a) (nI s) tl fc n (nI i) sz tk ln an fa sk lw hg m en dp ca rc re ho ae ta ow ts fs) (fun i m => l 2 ≤ i ∧ fc_or ((1 : Int32) <<< (nI a &&& 31)) (fx_P sz s l h i (l 1) (l 0)) mv m) (h 2 + 1) (l 2) mv (by omega) ⟨Nat.le_refl _, fc_or0 ?_⟩ (fun n m I => ?_) (fun n z m hzi I k => ?_)
  · rintro i ⟨x', y', z', q⟩; omega
  · refine pk_lt (h 2) (h 2 + 1) (fun _ => hp m (fc_orc I.2 ?_)) (fun q => absurd q (by omega)) c2
    intro i
    constructor
    · rintro ⟨x', y', z', q1, q2, q3, q4, q5, q6, q7, q8⟩
      exact ⟨x', y', z', q1, q2, q3, q4, q5, q6, q7, by omega⟩
    · rintro ⟨x', y', z', q1, q2, q3, q4, q5, q6, q7, q8⟩
      exact ⟨x', y', z', q1, q2, q3, q4, q5, q6, q7, by omega⟩
  · obtain ⟨hlz, I⟩ := I
    refine pk_lt (h 2) z (fun q => absurd q (by omega)) (fun _ => nm_r b1 ?_) c2
    refine pk_loop (fun n' i m => wX_addMoves_25 post (wX_addMoves_7 post (nI a) (nI s) tl fc n) (nI a) (nI s) (nI z) tl fc n' (nI i) sz tk ln an fa sk lw hg m en dp ca rc re ho ae ta ow ts fs) (fun i m => l 1 ≤ i ∧ fc_or ((1 : Int32) <<< (nI a &&& 31)) (fx_P sz s l h z i (l 0)) mv m) (h 1 + 1) (l 1) m (by omega) ⟨Nat.le_refl _, I⟩ (fun n' m I => ?_) (fun n' y m hyi I k2 => ?_)
    · refine pk_lt (h 1) (h 1 + 1) (fun _ => nm_r (nI_1 z) (k m ⟨by omega, fc_orc I.2 ?_⟩)) (fun q => absurd q (by omega)) b2
      intro i
      constructor
      · rintro ⟨x', y', z', q1, q2, q3, q4, q5, q6, q7, q8⟩
        exact ⟨x', y', z', q1, q2, q3, q4, q5, q6, q7, by omega⟩
      · rintro ⟨x', y', z', q1, q2, q3, q4, q5, q6, q7, q8⟩
        exact ⟨x', y', z', q1, q2, q3, q4, q5, q6, q7, by omega⟩
    · obtain ⟨hly, I⟩ := I
      refine pk_lt (h 1) y (fun q => absurd q (by omega)) (fun _ => nm_r a1 ?_) b2
      refine pk_loop (fun n'' i m => wX_addMoves_44 post (wX_addMoves_7 post (nI a) (nI s) tl fc n) (wX_addMoves_25 post (wX_addMoves_7 post (nI a) (nI s) tl fc n) (nI a) (nI s) (nI z) tl fc n') (nI a) (nI s) (nI z) (nI y) tl fc n'' (nI i) sz tk ln an fa sk lw hg m en dp ca rc re ho ae ta ow ts fs) (fun i m => l 0 ≤ i ∧ fc_or ((1 : Int32) <<< (nI a &&& 31)) (fx_P sz s l h z y i) mv m) (h 0 + 1) (l 0) m (by omega) ⟨Nat.le_refl _, I⟩ (fun n'' m I => ?_) (fun n'' x m hxi I k3 => ?_)
      · refine pk_lt (h 0) (h 0 + 1) (fun _ => nm_r (nI_1 y) (k2 m ⟨by omega, fc_orc I.2 ?_⟩)) (fun q => absurd q (by omega)) a2
        intro i
        constructor
        · rintro ⟨x', y', z', q1, q2, q3, q4, q5, q6, q7, q8⟩
          exact ⟨x', y', z', q1, q2, q3, q4, q5, q6, q7, by omega⟩
        · rintro ⟨x', y', z', q1, q2, q3, q4, q5, q6, q7, q8⟩
          exact ⟨x', y', z', q1, q2, q3, q4, q5, q6, q7, by omega⟩
      · obtain ⟨hlx, I⟩ := I
        refine pk_lt (h 0) x (fun q => absurd q (by omega)) (fun _ => ?_) a2
        have hm : nI x + sz 0 * (nI y + sz 1 * nI z) = nI (fc_mk sz x y z) := by
          rw [za1, zb1, pk_mul, nI_add, pk_mul, nI_add]; rfl
        have hlt : fc_mk sz x y z < fc_N sz := fc_mk_lt (by omega) (by omega) (by omega)
        have hx : nI s * 125 + nI (fc_mk sz x y z) = nI (s * 125 + fc_mk sz x y z) := by
          rw [← nI_add, ← pk_mul]; rfl
        refine nm_r hm ?_
        rw [hx, nI_clamp (by omega)]
        refine ⟨vp_in_nI (by omega) (by omega), vp_in_nI (by omega) (by omega), ?_⟩
        refine nm_e (nm_r (nI_1 x) (k3 _ ⟨by omega, fc_or1 I (fun i => ?_)⟩))
        constructor
        · rintro ⟨x', y', z', q1, q2, q3, q4, q5, q6, q7, q8⟩
          by_cases e : x' = x ∧ y' = y ∧ z' = z
          · obtain ⟨rfl, rfl, rfl⟩ := e
            exact Or.inr q7
          · exact Or.inl ⟨x', y', z', q1, q2, q3, q4, q5, q6, q7, by omega⟩
        · rintro (⟨x', y', z', q1, q2, q3, q4, q5, q6, q7, q8⟩ | e)
          · exact ⟨x', y', z', q1, q2, q3, q4, q5, q6, q7, by omega⟩
          · exact ⟨x, y, z, by omega, by omega, by omega, by omega, by omega, by omega, e, by omega⟩
end FXM
