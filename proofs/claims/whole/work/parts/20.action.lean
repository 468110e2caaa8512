section FAC
variable {tl fc : Int32} {sz tk ln an fa sk lw hg mv en dp ca rc : Nat → Int32} {re : Nat → Int64} {ho ae ta ow ts fs : Nat → Int32} {kn te fl : Int32} {yk yl th ef : Nat → Int32} {go : Nat → Int64} {gu ye yd : Nat → Int32} {wa al yc : Nat → Int64} {tr fd ys : Nat → Int32}
theorem fr_ac {k a : Nat} {lq aq eq tq yq : Nat → Int32} (ha : a < 4) (I : i_Rel k (tl, fc, sz, tk, ln, an, fa, sk, lw, hg, mv, en, dp, ca, rc, re, ho, ae, ta, ow, ts, fs) (kn, te, fl, yk, yl, sz, th, fa, ef, go, gu, ye, yd, wa, al, yc, tr, fd, ys)) (hf : fc_ex (fc_T tk 0) (fc_L ln 0))
    (l1 : ∀ v, v < 3 → lq (7 + a * 3 + v) = 0) (l2 : ∀ m, m < 7 + a * 3 ∨ 7 + a * 3 + 3 ≤ m → lq m = ln m)
    (a1 : ∀ v, v < 3 → aq (a * 3 + v) = 0) (a2 : ∀ m, m < a * 3 ∨ a * 3 + 3 ≤ m → aq m = an m)
    (e1 : ∀ v, v < 3 → eq (a * 3 + v) = 0) (e2 : ∀ m, m < a * 3 ∨ a * 3 + 3 ≤ m → eq m = ef m)
    (h : fc_cp tk tq (3 + a) (fc_L lq 0)) (g : fc_cp yk yq (3 + 4 * a) (fc_L yl 0)) :
    i_Rel k (tl, fc, sz, tq, upd (upd lq (3 + a) (lq 0)) 0 0, aq, upd fa a 0, sk, lw, hg, mv, en, dp, ca, rc, re, ho, ae, ta, ow, ts, fs) (0, te, fl, yq, upd (upd yl (3 + 4 * a) (yl 0)) 0 0, sz, upd th a 1, upd fa a 0, eq, go, gu, ye, yd, wa, al, yc, tr, fd, ys) := by
  obtain ⟨_, _, S, Y, Fa, K, T, F⟩ := I
  have sl : ∀ m, m < 7 + a * 3 ∨ 7 + a * 3 + 3 ≤ m → fc_sm tk ln m tk lq m := fun m hm => fs_l (l2 m hm)
  have S1 : fx_S sz tk lq := by
    refine fs_Z.mpr ⟨S.1, fc_sm_sh (sl 0 (by omega)) S.2.1, fun m h1 h2 => ?_⟩
    by_cases e : m < 7 + a * 3 ∨ 7 + a * 3 + 3 ≤ m
    · exact fs_m (sl m e) (S.2.2 m h1 h2)
    · obtain ⟨v, hv, rfl⟩ : ∃ v, v < 3 ∧ m = 7 + a * 3 + v := ⟨m - (7 + a * 3), by omega, by omega⟩
      exact fs_0 (l1 v hv)
  have sm0 : fc_sm tk lq 0 yk yl 0 := fs_t (fs_s (sl 0 (by omega))) (Y.1 0 (by omega))
  have hf1 : fc_ex (fc_T tk 0) (fc_L lq 0) := by rw [fs_L (sl 0 (by omega))]; exact hf
  have hne : fc_L lq 0 ≠ 0 := fun z => by rw [z] at hf1; exact fc_ex0 hf1
  refine ⟨rfl, rfl, fs_tX (by omega) S1 (fs_fx S1.2.1 (Or.inr hf1)) h, ⟨fun m hm => ?_, fun b hb => ?_⟩, fun b hb => ?_, Or.inl rfl, T, F⟩
  · by_cases e0 : m = 0
    · subst e0; exact fs_t0
    · exact fs_tO S1 sm0 h g (by omega) (by omega) (by omega) (by omega) (by omega) (fs_t (fs_s (sl m (by omega))) (Y.1 m hm))
  · by_cases e : b = a
    · subst e
      refine Or.inr ⟨pk_us, by rw [fs_tLj (by omega)]; exact hne, fs_tS (by omega) (by omega) sm0 h g, fun v hv => Or.inl ⟨e1 v hv, ?_, a1 v hv⟩⟩
      rw [fs_tL (by omega) (by omega)]
      refine fs_L0 ?_
      rw [← Nat.add_assoc]; exact l1 v hv
    · rw [pk_un e, fs_tL (by omega) (by omega), fs_L (sl (3 + b) (by omega))]
      rcases Y.2 b hb with q | ⟨q1, q2, q3, q4⟩
      · exact Or.inl q
      · refine Or.inr ⟨q1, q2, fs_tO S1 sm0 h g (by omega) (by omega) (by omega) (by omega) (by omega) (fs_t (fs_s (sl _ (by omega))) q3), fun v hv => ?_⟩
        unfold fy_e
        rw [fs_tL (by omega) (by omega), fs_L (sl (7 + (b * 3 + v)) (by omega)), e2 _ (by omega), a2 _ (by omega)]
        rcases q4 v hv with q | ⟨w1, w2, w3⟩ | q
        · exact Or.inl q
        · exact Or.inr (Or.inl ⟨w1, w2, fs_tO S1 sm0 h g (by omega) (by omega) (by omega) (by omega) (by omega) (fs_t (fs_s (sl _ (by omega))) w3)⟩)
        · exact Or.inr (Or.inr q)
  · by_cases e : b = a
    · subst e; exact Or.inl pk_us
    · rw [pk_un e]; exact Fa b hb
theorem fy_a0 {post : Int32 → SY → Prop} {x : Int32} (h : post 0 (kn, te, fl, yk, upd yl 0 0, sz, th, fa, ef, go, gu, ye, yd, wa, al, yc, tr, fd, ys)) : wY_action_21 post x kn te fl yk yl sz th fa ef go gu ye yd wa al yc tr fd ys := by
  refine br_t rfl (br_t rfl ?_)
  unfold wY_action_80
  exact fy_tk0 ⟨fn_n0, h⟩
theorem fx_a0 {post : Int32 → SX → Prop} {x : Int32} (h : post 0 (tl, fc, sz, tk, upd ln 0 0, an, fa, sk, lw, hg, mv, en, dp, ca, rc, re, ho, ae, ta, ow, ts, fs)) : wX_action_20 post x tl fc sz tk ln an fa sk lw hg mv en dp ca rc re ho ae ta ow ts fs := by
  refine br_t rfl ?_
  unfold wX_action_71
  exact fx_ud0 ⟨fn_n0, h⟩
theorem fx_a1 {post : Int32 → SX → Prop} {a : Nat} (ha : a < 4) (hs : fc_sh tk ln 0)
    (hp : ∀ lq aq tq, (∀ v, v < 3 → lq (7 + a * 3 + v) = 0) → (∀ m, m < 7 + a * 3 ∨ 7 + a * 3 + 3 ≤ m → lq m = ln m) → (∀ v, v < 3 → aq (a * 3 + v) = 0) → (∀ m, m < a * 3 ∨ a * 3 + 3 ≤ m → aq m = an m) → fc_cp tk tq (3 + a) (fc_L lq 0) →
      post 1 (tl, fc, sz, tq, upd (upd lq (3 + a) (lq 0)) 0 0, aq, upd fa a 0, sk, lw, hg, mv, en, dp, ca, rc, re, ho, ae, ta, ow, ts, fs)) : wX_action_21 post (nI a) 1 tl fc sz tk ln an fa sk lw hg mv en dp ca rc re ho ae ta ow ts fs := by
  refine br_f (by decide) ⟨vp_in_nI ha (by omega), ?_⟩
  rw [nI_clamp (by omega)]
  refine nm_e ?_
  refine pk_loop (fun n i p => wX_action_35 post (nI a) 1 tl fc n (nI i) sz tk p.1 p.2 (upd fa a 0) sk lw hg mv en dp ca rc re ho ae ta ow ts fs) (fun i (p : (Nat → Int32) × (Nat → Int32)) => (∀ v, v < i → p.1 (7 + a * 3 + v) = 0) ∧ (∀ m, m < 7 + a * 3 ∨ 7 + a * 3 + 3 ≤ m → p.1 m = ln m) ∧ (∀ v, v < i → p.2 (a * 3 + v) = 0) ∧ (∀ m, m < a * 3 ∨ a * 3 + 3 ≤ m → p.2 m = an m)) 3 0 (ln, an) (by omega) ⟨fun v hv => absurd hv (by omega), fun _ _ => rfl, fun v hv => absurd hv (by omega), fun _ _ => rfl⟩ (fun n p J => ?_) (fun n i p hi J kk => ?_)
  · obtain ⟨lq, aq⟩ := p
    obtain ⟨J1, J2, J3, J4⟩ := J
    refine br_t (by decide) ?_
    unfold wX_action_71
    rw [show 3 + nI a = nI (3 + a) from nI_add 3 a]
    have h0 : fc_sh tk lq 0 := fc_sm_sh (fs_l (J2 0 (by omega))) hs
    exact fx_ud1 (by omega) (by omega) h0 (fun tq hq => ⟨fn_n1, hp lq aq tq J1 J2 J3 J4 hq⟩)
  · obtain ⟨lq, aq⟩ := p
    obtain ⟨J1, J2, J3, J4⟩ := J
    have J1 : ∀ v, v < i → lq (7 + a * 3 + v) = 0 := J1
    have J2 : ∀ m, m < 7 + a * 3 ∨ 7 + a * 3 + 3 ≤ m → lq m = ln m := J2
    have J3 : ∀ v, v < i → aq (a * 3 + v) = 0 := J3
    have J4 : ∀ m, m < a * 3 ∨ a * 3 + 3 ≤ m → aq m = an m := J4
    refine pk_le 3 i (fun z => absurd z (by omega)) (fun _ => ?_)
    have h1 : 7 + nI a * 3 + nI i = nI (7 + a * 3 + i) := by rw [← nI_add, ← nI_add, ← pk_mul]; rfl
    have h2 : nI a * 3 + nI i = nI (a * 3 + i) := by rw [← nI_add, ← pk_mul]; rfl
    rw [h1, h2, nI_clamp (by omega), nI_clamp (by omega), fn_b0]
    refine ⟨vp_in_nI (by omega) (by omega), nm_e ⟨vp_in_nI (by omega) (by omega), nm_e (nm_r (nI_1 i) (kk (_, _) ⟨fun v hv => ?_, fun m hm => ?_, fun v hv => ?_, fun m hm => ?_⟩))⟩⟩
    · show upd lq _ _ _ = _
      by_cases e : v = i
      · subst e; exact pk_us
      · rw [pk_un (by omega)]; exact J1 v (by omega)
    · show upd lq _ _ _ = _
      rw [pk_un (by omega)]; exact J2 m hm
    · show upd aq _ _ _ = _
      by_cases e : v = i
      · subst e; exact pk_us
      · rw [pk_un (by omega)]; exact J3 v (by omega)
    · show upd aq _ _ _ = _
      rw [pk_un (by omega)]; exact J4 m hm
theorem fy_a1 {post : Int32 → SY → Prop} {a : Nat} (ha : a < 4) (hs : fc_sh yk yl 0)
    (hp : ∀ eq yq, (∀ v, v < 3 → eq (a * 3 + v) = 0) → (∀ m, m < a * 3 ∨ a * 3 + 3 ≤ m → eq m = ef m) → fc_cp yk yq (3 + 4 * a) (fc_L yl 0) →
      post 1 (0, te, fl, yq, upd (upd yl (3 + 4 * a) (yl 0)) 0 0, sz, upd th a 1, upd fa a 0, eq, go, gu, ye, yd, wa, al, yc, tr, fd, ys)) : wY_action_22 post (nI a) 1 kn te fl yk yl sz th fa ef go gu ye yd wa al yc tr fd ys := by
  refine br_f (by decide) ⟨vp_in_nI ha (by omega), ?_⟩
  rw [nI_clamp (by omega), fn_b1]
  refine nm_e ⟨vp_in_nI ha (by omega), nm_e ?_⟩
  refine pk_loop (fun n i p => wY_action_43 post (nI a) 1 kn te fl n (nI i) yk yl sz (upd th a 1) (upd fa a 0) p go gu ye yd wa al yc tr fd ys) (fun i p => (∀ v, v < i → p (a * 3 + v) = 0) ∧ (∀ m, m < a * 3 ∨ a * 3 + 3 ≤ m → p m = ef m)) 3 0 ef (by omega) ⟨fun v hv => absurd hv (by omega), fun _ _ => rfl⟩ (fun n p J => ?_) (fun n i p hi J kk => ?_)
  · refine br_t (by decide) (br_f (by decide) ?_)
    unfold wY_action_80
    rw [show 3 + 4 * nI a = nI (3 + 4 * a) from by rw [← nI_add, ← pk_mul]; rfl]
    exact fy_tk1 (by omega) (by omega) hs (fun yq hq => ⟨fn_n1, hp p yq J.1 J.2 hq⟩)
  · refine pk_le 3 i (fun z => absurd z (by omega)) (fun _ => ?_)
    have h2 : 3 * nI a + nI i = nI (a * 3 + i) := by rw [← nI_add, Nat.mul_comm, ← pk_mul]; rfl
    rw [h2, nI_clamp (by omega)]
    refine ⟨vp_in_nI (by omega) (by omega), nm_e (nm_r (nI_1 i) (kk _ ⟨fun v hv => ?_, fun m hm => ?_⟩))⟩
    · by_cases e : v = i
      · subst e; exact pk_us
      · rw [pk_un (by omega)]; exact J.1 v (by omega)
    · rw [pk_un (by omega)]; exact J.2 m hm
theorem i_vc_action {k : Nat} {u : SX} {v : SY} (I : i_Rel k u v) (hk : k + 4 ≤ 2048) (v1 : Int32) : wpX_action (fun r u' => wpY_action (fun r' v' => r' = r ∧ i_Rel (k + 4) u' v') v v1) u v1 := by
  obtain ⟨tl, fc, sz, tk, ln, an, fa, sk, lw, hg, mv, en, dp, ca, rc, re, ho, ae, ta, ow, ts, fs⟩ := u
  obtain ⟨kn, te, fl, yk, yl, vs, th, yf, ef, go, gu, ye, yd, wa, al, yc, tr, fd, ys⟩ := v
  have I : i_Rel (k + 4) (tl, fc, sz, tk, ln, an, fa, sk, lw, hg, mv, en, dp, ca, rc, re, ho, ae, ta, ow, ts, fs) (kn, te, fl, yk, yl, vs, th, yf, ef, go, gu, ye, yd, wa, al, yc, tr, fd, ys) := I
  obtain ⟨rfl, rfl, S, Y, Fa, K, T, F⟩ := id I
  have sm0 := Y.1 0 (by omega)
  have hy := fc_sm_sh sm0 S.2.1
  rcases pk_ix v1 (n := 4) (by omega) with h | h | ⟨a, ha, rfl⟩
  · refine br_t h (fx_a0 ?_)
    unfold wpY_action
    exact fy_no (Or.inl h) (br_t rfl (fy_a0 ⟨rfl, fr_d I⟩))
  · refine br_f (fun z => ?_) (br_t h (fx_a0 ?_))
    · exact absurd (Int32.le_trans h (Int32.le_of_lt z)) (by decide)
    · unfold wpY_action
      exact fy_no (Or.inr h) (br_t rfl (fy_a0 ⟨rfl, fr_d I⟩))
  · refine br_f (nI_pos (by omega)) (pk_le 4 a (fun z => absurd z (by omega)) (fun _ => ?_))
    refine fx_di S.2.1 (fun hf => br_f (by decide) (fx_a1 ha S.2.1 (fun lq aq tq l1 l2 a1 a2 hc => ?_))) (fun hf => br_t rfl (fx_a0 ?_))
    · unfold wpY_action
      refine fy_ni (a := 0) (b := 3) (by omega) (by omega) (by omega) (br_f (by decide) ?_)
      refine fy_ie hy (fun _ => br_f (by decide) (fy_a1 ha hy (fun eq yq e1 e2 hg => ⟨rfl, fr_ac ha I hf l1 l2 a1 a2 e1 e2 hc hg⟩))) (fun z => absurd ((fs_exq sm0).mpr hf) z)
    · unfold wpY_action
      refine fy_ni (a := 0) (b := 3) (by omega) (by omega) (by omega) (br_f (by decide) ?_)
      exact fy_ie hy (fun z => absurd ((fs_exq sm0).mp z) hf) (fun _ => br_t rfl (fy_a0 ⟨rfl, fr_d I⟩))
end FAC
