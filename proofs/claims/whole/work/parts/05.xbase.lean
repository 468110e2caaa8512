section FXB
variable {tl fc : Int32} {sz tk ln an fa sk lw hg mv en dp ca rc : Nat → Int32} {re : Nat → Int64} {ho ae ta ow ts fs : Nat → Int32}
theorem fn_ms {m : Nat} (a : Nat) (h : 0 < m) : nI m + (nI a - 1) = nI (m + a - 1) := by
  obtain ⟨k, rfl⟩ : ∃ k, m = k + 1 := ⟨m - 1, by omega⟩
  rw [← nI_1, show k + 1 + a - 1 = k + a by omega, ← nI_add]
  grind
theorem fc_a0 {c : Nat} (h : c < 20) : fc_a c = 0 := if_pos h
theorem fc_a2 {c : Nat} (h : ¬ c < 20) (h27 : c ≠ 27) (h28 : c ≠ 28) : fc_a c = 2 := by
  unfold fc_a; rw [if_neg h, if_neg h27, if_neg h28]
theorem fx_op {post : Int32 → Prop} {c : Nat} (hc : c < 100) (h : post (nI (fc_a c))) : wpX_operands post (tl, fc, sz, tk, ln, an, fa, sk, lw, hg, mv, en, dp, ca, rc, re, ho, ae, ta, ow, ts, fs) (nI c) := by
  refine pk_le 20 c (fun h1 => pk_eq c 27 (fun h2 => ?_) (fun h2 => pk_eq c 28 (fun h3 => ?_) (fun h3 => ?_))) (fun h1 => ?_)
  · subst h2; exact h
  · subst h3; exact h
  · rw [fc_a2 (by omega) h2 h3] at h; exact h
  · rw [fc_a0 (by omega)] at h; exact h
theorem fc_T0 (tk : Nat → Int32) (i : Nat) : fc_T tk 0 i = (tk i).toNatClampNeg := by
  unfold fc_T; rw [Nat.zero_mul, Nat.zero_add]
theorem fc_sh0 {tk ln : Nat → Int32} (h : fc_sh tk ln 0) {i : Nat} (hi : i < fc_L ln 0) : tk i = nI (fc_T tk 0 i) ∧ fc_nc (fc_T tk 0 i) := by
  have := h.2.2 i hi
  rw [Nat.zero_mul, Nat.zero_add] at this
  rw [fc_T0]
  exact fc_nmc this
theorem fc_nc100 {c : Nat} (h : fc_nc c) : c < 100 := by unfold fc_nc at h; omega
theorem fx_di {post : Int32 → Prop} (hs : fc_sh tk ln 0) (h1 : fc_ex (fc_T tk 0) (fc_L ln 0) → post 1) (h0 : ¬ fc_ex (fc_T tk 0) (fc_L ln 0) → post 0) : wpX_draftIsExpression post (tl, fc, sz, tk, ln, an, fa, sk, lw, hg, mv, en, dp, ca, rc, re, ho, ae, ta, ow, ts, fs) := by
  have key : ∀ d i, i + d = fc_L ln 0 → (∀ j, j < i → 0 < fc_ms (fc_T tk 0) j) → wX_draftIsExpression_4 post tl fc sz tk ln an fa sk lw hg mv en dp ca rc re ho ae ta ow ts fs (d + 1) (nI (fc_ms (fc_T tk 0) i)) (nI i) := by
    intro d
    induction d with
    | zero =>
      intro i hi hm
      have hb := fc_ms_up (fc_T tk 0) i
      have h12 := hs.2.1
      refine pk_le (fc_L ln 0) i (fun _ => pk_eq (fc_ms (fc_T tk 0) i) 0 (fun e => h1 ?_) (fun e => h0 ?_)) (fun z => absurd z (by omega)) hs.1
      · rw [← (show i = fc_L ln 0 by omega)]; exact ⟨hm, e⟩
      · rw [← (show i = fc_L ln 0 by omega)]; exact fun z => e z.2
    | succ d ih =>
      intro i hi hm
      have hb := fc_ms_up (fc_T tk 0) i
      have h12 := hs.2.1
      refine pk_le (fc_L ln 0) i (fun z => absurd z (by omega)) (fun z => pk_eq (fc_ms (fc_T tk 0) i) 0 (fun e => h0 ?_) (fun e => ?_)) hs.1
      · intro k; have := k.1 i (by omega); omega
      · obtain ⟨ht, hc⟩ := fc_sh0 hs (i := i) (by omega)
        have hx : (0 : Int32) + nI i = nI i := Int32.zero_add _
        refine ⟨by rw [hx]; exact vp_in_nI (by omega) (by omega), ?_⟩
        rw [hx, nI_clamp (by omega), ht]
        refine fx_op (fc_nc100 hc) (fun y ey z ez => ?_)
        rw [ey, ez, fn_ms _ (by omega), nI_1]
        exact ih (i + 1) (by omega) (fun j hj => by
          by_cases e : j = i
          · subst e; omega
          · exact hm j (by omega))
  exact ⟨fc_L ln 0 + 1, key (fc_L ln 0) 0 (by omega) (fun j hj => absurd hj (by omega))⟩
theorem fx_de {post : Int32 → Prop} (hs : fc_sh tk ln 0) (h1 : (fc_L ln 0 = 0 ∨ fc_ex (fc_T tk 0) (fc_L ln 0)) → post 1) (h0 : ¬ (fc_L ln 0 = 0 ∨ fc_ex (fc_T tk 0) (fc_L ln 0)) → post 0) : wpX_draftIsExpressionOrEmpty post (tl, fc, sz, tk, ln, an, fa, sk, lw, hg, mv, en, dp, ca, rc, re, ho, ae, ta, ow, ts, fs) := by
  have h12 := hs.2.1
  refine pk_eq (fc_L ln 0) 0 (fun e => h1 (Or.inl e)) (fun e => ?_) hs.1
  refine fx_di hs (fun k => ?_) (fun k => ?_)
  · exact br_f (by decide) (h1 (Or.inr k))
  · exact br_t rfl (h0 (fun z => z.elim e k))
theorem fx_ud0 {post : Int32 → SX → Prop} {x : Int32} (h : post 0 (tl, fc, sz, tk, upd ln 0 0, an, fa, sk, lw, hg, mv, en, dp, ca, rc, re, ho, ae, ta, ow, ts, fs)) : wpX_useDraft post (tl, fc, sz, tk, ln, an, fa, sk, lw, hg, mv, en, dp, ca, rc, re, ho, ae, ta, ow, ts, fs) x 0 :=
  br_t rfl (nm_e ⟨fn_n0, h⟩)
def fc_cp (tk tq : Nat → Int32) (j n : Nat) : Prop := (∀ k, k < n → tq (j * 12 + k) = tk k) ∧ ∀ m, (m < j * 12 ∨ j * 12 + n ≤ m) → tq m = tk m
theorem fc_cps {tk tq : Nat → Int32} {j n : Nat} (hj : 1 ≤ j) (hn : n < 12) (h : fc_cp tk tq j n) : fc_cp tk (upd tq (j * 12 + n) (tq n)) j (n + 1) := by
  refine ⟨fun k hk => ?_, fun m hm => ?_⟩
  · by_cases e : k = n
    · subst e; rw [pk_us]; exact h.2 _ (by omega)
    · rw [pk_un (by omega)]; exact h.1 k (by omega)
  · rw [pk_un (by omega)]; exact h.2 m (by omega)
theorem fx_ud1 {post : Int32 → SX → Prop} {j : Nat} (hj : 1 ≤ j) (hj2 : j < 19) (hs : fc_sh tk ln 0) (h : ∀ tq, fc_cp tk tq j (fc_L ln 0) → post 1 (tl, fc, sz, tq, upd (upd ln j (ln 0)) 0 0, an, fa, sk, lw, hg, mv, en, dp, ca, rc, re, ho, ae, ta, ow, ts, fs)) : wpX_useDraft post (tl, fc, sz, tk, ln, an, fa, sk, lw, hg, mv, en, dp, ca, rc, re, ho, ae, ta, ow, ts, fs) (nI j) 1 := by
  have h12 := hs.2.1
  refine br_f (by decide) ?_
  refine pk_loop (fun n i t => wX_useDraft_6 post (nI j) 1 tl fc n (nI i) sz t ln an fa sk lw hg mv en dp ca rc re ho ae ta ow ts fs) (fun i t => fc_cp tk t j i) (fc_L ln 0) 0 tk (by omega) ⟨fun k hk => absurd hk (by omega), fun m _ => rfl⟩ (fun n t ht => ?_) (fun n i t hi ht k => ?_)
  · refine pk_le (fc_L ln 0) (fc_L ln 0) (fun _ => ?_) (fun z => absurd z (by omega)) hs.1
    refine ⟨vp_in_nI hj2 (by omega), ?_⟩
    rw [nI_clamp (by omega)]
    exact nm_e (nm_e ⟨fn_n1, h t ht⟩)
  · refine pk_le (fc_L ln 0) i (fun z => absurd z (by omega)) (fun z => ?_) hs.1
    have hx : (0 : Int32) + nI i = nI i := Int32.zero_add _
    have hy : nI j * 12 + nI i = nI (j * 12 + i) := by
      rw [← nI_add, ← pk_mul]; rfl
    refine ⟨by rw [hx]; exact vp_in_nI (by omega) (by omega), ?_⟩
    rw [hx, hy]
    refine ⟨vp_in_nI (by omega) (by omega), ?_⟩
    rw [nI_clamp (by omega), nI_clamp (by omega)]
    refine nm_e (nm_r (nI_1 i) ?_)
    exact k _ (fc_cps hj (by omega) ht)
theorem fx_it {post : Int32 → Prop} {a : Nat} (ha : a < 4) (hs : ln (3 + a) = nI (fc_L ln (3 + a))) (hb : fc_L ln (3 + a) ≤ 12) (h1 : fc_L ln (3 + a) ≠ 0 → post 1) (h0 : fc_L ln (3 + a) = 0 → post 0) : wpX_isThere post (tl, fc, sz, tk, ln, an, fa, sk, lw, hg, mv, en, dp, ca, rc, re, ho, ae, ta, ow, ts, fs) (nI a) := by
  refine pk_lt a 0 (fun z => absurd z (by omega)) (fun _ => pk_le 4 a (fun z => absurd z (by omega)) (fun _ => ?_))
  have hx : 3 + nI a = nI (3 + a) := by rw [← nI_add]; rfl
  rw [hx, nI_clamp (by omega)]
  refine ⟨vp_in_nI (by omega) (by omega), ?_⟩
  exact pk_le (fc_L ln (3 + a)) 0 (fun z => h0 (by omega)) (fun z => h1 (by omega)) hs
theorem fx_itn {post : Int32 → Prop} {x : Int32} (hx : x < 0 ∨ nI 4 ≤ x) (h0 : post 0) : wpX_isThere post (tl, fc, sz, tk, ln, an, fa, sk, lw, hg, mv, en, dp, ca, rc, re, ho, ae, ta, ow, ts, fs) x := by
  by_cases z : x < 0
  · exact br_t z h0
  · exact br_f z (br_t (hx.resolve_left z) h0)
theorem fx_ns {post : Int32 → Prop} (hz : fc_Z sz) (h : post (nI (fc_N sz))) : wpX_numberOfStates post (tl, fc, sz, tk, ln, an, fa, sk, lw, hg, mv, en, dp, ca, rc, re, ho, ae, ta, ow, ts, fs) := by
  show post (sz 0 * sz 1 * sz 2)
  rw [fc_Nn hz]; exact h
theorem fx_vs {post : Int32 → Prop} (hz : fc_Z sz) {v u r n : Nat} (hr : r < 2 ^ 31) (huv : u < v) (hv : v < 3) (h : wX_valueIn_5 post (nI v) tl fc sz tk ln an fa sk lw hg mv en dp ca rc re ho ae ta ow ts fs n (nI (r / fc_z sz u)) (nI (u + 1))) : wX_valueIn_5 post (nI v) tl fc sz tk ln an fa sk lw hg mv en dp ca rc re ho ae ta ow ts fs (n + 1) (nI r) (nI u) := by
  refine pk_le v u (fun z => absurd z (by omega)) (fun _ => ?_)
  refine ⟨vp_in_nI (by omega) (by omega), ?_⟩
  have hu := hz u (by omega)
  rw [nI_clamp (by omega)]
  have h0 : ¬ sz u = 0 := by rw [hu.1]; exact nI_ne0 (by omega) (by omega)
  refine ⟨h0, nm_r (e' := nI (r / fc_z sz u)) ?_ (nm_r (nI_1 u) h)⟩
  rw [hu.1, pk_div hr (by omega) (by omega)]
theorem fx_vx {post : Int32 → Prop} (hz : fc_Z sz) {v r n : Nat} (hr : r < 2 ^ 31) (hv : v < 3) (h : post (nI (r % fc_z sz v))) : wX_valueIn_5 post (nI v) tl fc sz tk ln an fa sk lw hg mv en dp ca rc re ho ae ta ow ts fs (n + 1) (nI r) (nI v) := by
  refine pk_le v v (fun _ => ?_) (fun z => absurd z (by omega))
  refine ⟨vp_in_nI (by omega) (by omega), ?_⟩
  have hu := hz v (by omega)
  rw [nI_clamp (by omega)]
  have h0 : ¬ sz v = 0 := by rw [hu.1]; exact nI_ne0 (by omega) (by omega)
  refine ⟨h0, ?_⟩
  have e : nI r - nI r / sz v * sz v = nI (r % fc_z sz v) := by
    rw [hu.1, pk_rem hr (by omega) (by omega)]
  rw [e]; exact h
theorem fx_vi {post : Int32 → Prop} (hz : fc_Z sz) {s v : Nat} (hs : s < 2 ^ 31) (hv : v < 3) (h : post (nI (fc_v sz s v))) : wpX_valueIn post (tl, fc, sz, tk, ln, an, fa, sk, lw, hg, mv, en, dp, ca, rc, re, ho, ae, ta, ow, ts, fs) (nI s) (nI v) := by
  have k1 : s / fc_z sz 0 < 2 ^ 31 := Nat.lt_of_le_of_lt (Nat.div_le_self _ _) hs
  have k2 : s / fc_z sz 0 / fc_z sz 1 < 2 ^ 31 := Nat.lt_of_le_of_lt (Nat.div_le_self _ _) k1
  rcases (show v = 0 ∨ v = 1 ∨ v = 2 by omega) with rfl | rfl | rfl
  · exact ⟨1, fx_vx hz hs (by omega) h⟩
  · exact ⟨2, fx_vs hz hs (u := 0) (by omega) (by omega) (fx_vx hz k1 (by omega) h)⟩
  · exact ⟨3, fx_vs hz hs (u := 0) (by omega) (by omega) (fx_vs hz k1 (u := 1) (by omega) (by omega) (fx_vx hz k2 (by omega) h))⟩
theorem fx_cb {post : Int32 → Prop} {c : Nat} {x y : Int32} (hc : 20 ≤ c) (hc2 : c ≤ 26) (h : post (fc_bin c x y)) : wpX_combine post (tl, fc, sz, tk, ln, an, fa, sk, lw, hg, mv, en, dp, ca, rc, re, ho, ae, ta, ow, ts, fs) (nI c) x y := by
  refine pk_lt c 20 (fun z => absurd z (by omega)) (fun _ => pk_lt 26 c (fun z => absurd z (by omega)) (fun _ => ?_))
  refine pk_eq c 20 (fun e => ?_) (fun e20 => pk_eq c 21 (fun e => ?_) (fun e21 => pk_eq c 22 (fun e => ?_) (fun e22 => pk_eq c 23 (fun e => ?_) (fun e23 => pk_eq c 24 (fun e => ?_) (fun e24 => pk_eq c 25 (fun e => ?_) (fun e25 => pk_eq c 26 (fun e => ?_) (fun e26 => absurd hc2 (by omega))))))))
  · subst e; exact h
  · subst e; exact h
  · subst e; exact h
  · subst e
    have h : post (if x = y then 1 else 0) := h
    exact br_c (fun z => by rw [if_pos z] at h; exact h) (fun z => by rw [if_neg z] at h; exact h)
  · subst e
    have h : post (if y ≤ x then 0 else 1) := h
    exact br_c (fun z => by rw [if_pos z] at h; exact h) (fun z => by rw [if_neg z] at h; exact h)
  · subst e
    have h : post (if x = 0 then 0 else if y = 0 then 0 else 1) := h
    exact br_c (fun z => by rw [if_pos z] at h; exact h) (fun z => br_c (fun w => by rw [if_neg z, if_pos w] at h; exact h) (fun w => by rw [if_neg z, if_neg w] at h; exact h))
  · subst e
    have h : post (if x = 0 then (if y = 0 then 0 else 1) else 1) := h
    exact br_c (fun z => br_c (fun w => by rw [if_pos z, if_pos w] at h; exact h) (fun w => by rw [if_pos z, if_neg w] at h; exact h)) (fun z => by rw [if_neg z] at h; exact h)
end FXB
