section FYB
variable {kn te fl : Int32} {yk yl sz th fa ef : Nat → Int32} {go : Nat → Int64} {gu ye yd : Nat → Int32} {wa al yc : Nat → Int64} {tr fd ys : Nat → Int32}
theorem fy_in {post : Int32 → Prop} {x a b : Int32} (h1 : ¬ x < a → ¬ b < x → post 1) (h0 : x < a ∨ b < x → post 0) : wpY_in post x a b := by
  refine br_c (fun z => h0 (Or.inl z)) (fun z => br_c (fun w => h0 (Or.inr w)) (fun w => h1 z w))
theorem fy_ar {post : Int32 → Prop} {c : Nat} (hc : c < 100) (h : post (nI (fc_a c))) : wpY_arity post (nI c) := by
  refine pk_le 20 c (fun h1 => pk_eq c 27 (fun h2 => ?_) (fun h2 => pk_eq c 28 (fun h3 => ?_) (fun h3 => ?_))) (fun h1 => ?_)
  · subst h2; exact h
  · subst h3; exact h
  · rw [fc_a2 (by omega) h2 h3] at h; exact h
  · rw [fc_a0 (by omega)] at h; exact h
theorem fy_ie {post : Int32 → Prop} (hs : fc_sh yk yl 0) (h1 : fc_ex (fc_T yk 0) (fc_L yl 0) → post 1) (h0 : ¬ fc_ex (fc_T yk 0) (fc_L yl 0) → post 0) : wpY_isExpression post (kn, te, fl, yk, yl, sz, th, fa, ef, go, gu, ye, yd, wa, al, yc, tr, fd, ys) 0 := by
  have e0 : (0 : Int32).toNatClampNeg = 0 := rfl
  have key : ∀ d i, i + d = fc_L yl 0 → (∀ j, j < i → 0 < fc_ms (fc_T yk 0) j) → wY_isExpression_4 post 0 kn te fl yk yl sz th fa ef go gu ye yd wa al yc tr fd ys (d + 1) (nI (fc_ms (fc_T yk 0) i)) (nI i) := by
    intro d
    induction d with
    | zero =>
      intro i hi hm
      have hb := fc_ms_up (fc_T yk 0) i
      have h12 := hs.2.1
      refine ⟨vp_in_nI (n := 0) (by omega) (by omega), ?_⟩
      rw [e0]
      refine pk_le (fc_L yl 0) i (fun _ => pk_eq (fc_ms (fc_T yk 0) i) 0 (fun e => h1 ?_) (fun e => h0 ?_)) (fun z => absurd z (by omega)) hs.1
      · rw [← (show i = fc_L yl 0 by omega)]; exact ⟨hm, e⟩
      · rw [← (show i = fc_L yl 0 by omega)]; exact fun z => e z.2
    | succ d ih =>
      intro i hi hm
      have hb := fc_ms_up (fc_T yk 0) i
      have h12 := hs.2.1
      refine ⟨vp_in_nI (n := 0) (by omega) (by omega), ?_⟩
      rw [e0]
      refine pk_le (fc_L yl 0) i (fun z => absurd z (by omega)) (fun z => pk_eq (fc_ms (fc_T yk 0) i) 0 (fun e => h0 ?_) (fun e => ?_)) hs.1
      · intro k; have := k.1 i (by omega); omega
      · obtain ⟨ht, hc⟩ := fc_sh0 hs (i := i) (by omega)
        have hx : (12 : Int32) * 0 + nI i = nI i := Int32.zero_add _
        refine ⟨by rw [hx]; exact vp_in_nI (by omega) (by omega), ?_⟩
        rw [hx, nI_clamp (by omega), ht]
        refine fy_ar (fc_nc100 hc) (fun y ey z ez => ?_)
        rw [ey, ez, fn_ms _ (by omega), nI_1]
        exact ih (i + 1) (by omega) (fun j hj => by
          by_cases e : j = i
          · subst e; omega
          · exact hm j (by omega))
  exact ⟨fc_L yl 0 + 1, key (fc_L yl 0) 0 (by omega) (fun j hj => absurd hj (by omega))⟩
theorem fy_tk0 {post : Int32 → SY → Prop} {x : Int32} (h : post 0 (kn, te, fl, yk, upd yl 0 0, sz, th, fa, ef, go, gu, ye, yd, wa, al, yc, tr, fd, ys)) : wpY_take post (kn, te, fl, yk, yl, sz, th, fa, ef, go, gu, ye, yd, wa, al, yc, tr, fd, ys) 0 x :=
  br_t rfl (nm_e ⟨fn_n0, h⟩)
theorem fy_tk1 {post : Int32 → SY → Prop} {j : Nat} (hj : 1 ≤ j) (hj2 : j < 19) (hs : fc_sh yk yl 0) (h : ∀ tq, fc_cp yk tq j (fc_L yl 0) → post 1 (0, te, fl, tq, upd (upd yl j (yl 0)) 0 0, sz, th, fa, ef, go, gu, ye, yd, wa, al, yc, tr, fd, ys)) : wpY_take post (kn, te, fl, yk, yl, sz, th, fa, ef, go, gu, ye, yd, wa, al, yc, tr, fd, ys) 1 (nI j) := by
  have h12 := hs.2.1
  refine br_f (by decide) ?_
  refine pk_loop (fun n i t => wY_take_6 post 1 (nI j) kn te fl n (nI i) t yl sz th fa ef go gu ye yd wa al yc tr fd ys) (fun i t => fc_cp yk t j i) (fc_L yl 0) 0 yk (by omega) ⟨fun k hk => absurd hk (by omega), fun m _ => rfl⟩ (fun n t ht => ?_) (fun n i t hi ht k => ?_)
  · refine pk_le (fc_L yl 0) (fc_L yl 0) (fun _ => ?_) (fun z => absurd z (by omega)) hs.1
    refine ⟨vp_in_nI hj2 (by omega), ?_⟩
    rw [nI_clamp (by omega)]
    exact nm_e (nm_e ⟨fn_n1, h t ht⟩)
  · refine pk_le (fc_L yl 0) i (fun z => absurd z (by omega)) (fun z => ?_) hs.1
    have hy : 12 * nI j + nI i = nI (j * 12 + i) := by
      rw [← nI_add, Nat.mul_comm, ← pk_mul]; rfl
    refine ⟨vp_in_nI (by omega) (by omega), ?_⟩
    rw [hy]
    refine ⟨vp_in_nI (by omega) (by omega), ?_⟩
    rw [nI_clamp (by omega), nI_clamp (by omega)]
    refine nm_e (nm_r (nI_1 i) ?_)
    exact k _ (fc_cps hj (by omega) ht)
theorem fy_ns {post : Int32 → Prop} (hz : fc_Z sz) (h : post (nI (fc_N sz))) : wpY_states post (kn, te, fl, yk, yl, sz, th, fa, ef, go, gu, ye, yd, wa, al, yc, tr, fd, ys) := by
  show post (sz 0 * sz 1 * sz 2)
  rw [fc_Nn hz]; exact h
theorem fy_vo {post : Int32 → Prop} (hz : fc_Z sz) {s v : Nat} (hs : s < fc_N sz) (hv : v < 3) (h : post (nI (fc_v sz s v))) : wpY_valueOf post (kn, te, fl, yk, yl, sz, th, fa, ef, go, gu, ye, yd, wa, al, yc, tr, fd, ys) (nI s) (nI v) := by
  have hN := fc_N1 hz
  obtain ⟨a1, a2, a3⟩ := hz 0 (by omega)
  obtain ⟨b1, b2, b3⟩ := hz 1 (by omega)
  have k1 : s / fc_z sz 0 < 2 ^ 31 := Nat.lt_of_le_of_lt (Nat.div_le_self _ _) (by omega)
  have e0 : ¬ sz 0 = 0 := by rw [a1]; exact nI_ne0 (by omega) (by omega)
  have e1 : ¬ sz 1 = 0 := by rw [b1]; exact nI_ne0 (by omega) (by omega)
  have q : nI s / sz 0 = nI (s / fc_z sz 0) := by rw [a1, pk_div (by omega) (by omega) (by omega)]
  rcases (show v = 0 ∨ v = 1 ∨ v = 2 by omega) with rfl | rfl | rfl
  · refine br_t rfl ⟨e0, ?_⟩
    have : nI s - nI s / sz 0 * sz 0 = nI (s % fc_z sz 0) := by rw [a1, pk_rem (by omega) (by omega) (by omega)]
    rw [this]; exact h
  · refine br_f (by decide) (br_t rfl ⟨e0, e1, ?_⟩)
    rw [q]
    have : nI (s / fc_z sz 0) - nI (s / fc_z sz 0) / sz 1 * sz 1 = nI (s / fc_z sz 0 % fc_z sz 1) := by rw [b1, pk_rem k1 (by omega) (by omega)]
    rw [this]; exact h
  · refine br_f (by decide) (br_f (by decide) ⟨e0, e1, ?_⟩)
    rw [q]
    have : nI (s / fc_z sz 0) / sz 1 = nI (s / fc_z sz 0 / fc_z sz 1) := by rw [b1, pk_div k1 (by omega) (by omega)]
    rw [this, ← fc_v2 hz hs]; exact h
theorem fy_cb {post : Int32 → Prop} {c : Nat} {x y : Int32} (hc : 20 ≤ c) (hc2 : c ≤ 26) (h : post (fc_bin c x y)) : wpY_calculate post (nI c) x y := by
  refine pk_lt c 20 (fun z => absurd z (by omega)) (fun _ => pk_lt 26 c (fun z => absurd z (by omega)) (fun _ => ?_))
  refine pk_eq c 20 (fun e => ?_) (fun e20 => pk_eq c 21 (fun e => ?_) (fun e21 => pk_eq c 22 (fun e => ?_) (fun e22 => pk_eq c 23 (fun e => ?_) (fun e23 => pk_eq c 24 (fun e => ?_) (fun e24 => pk_eq c 25 (fun e => ?_) (fun e25 => pk_eq c 26 (fun e => ?_) (fun e26 => absurd hc2 (by omega))))))))
  · subst e; exact h
  · subst e; exact h
  · subst e; exact h
  · subst e
    have h : post (if x = y then 1 else 0) := h
    exact br_c (fun z => by rw [if_pos z] at h; exact h) (fun z => by rw [if_neg z] at h; exact h)
  · subst e
    have h : post (if y ≤ x then 0 else 1) := h
    exact br_c (fun z => by rw [if_pos z] at h; exact h) (fun z => by rw [if_neg z] at h; exact h)
  · subst e
    have h : post (if x = 0 then 0 else if y = 0 then 0 else 1) := h
    exact br_c (fun z => by rw [if_pos z] at h; exact h) (fun z => br_c (fun w => by rw [if_neg z, if_pos w] at h; exact h) (fun w => by rw [if_neg z, if_neg w] at h; exact h))
  · subst e
    have h : post (if x = 0 then (if y = 0 then 0 else 1) else 1) := h
    exact br_c (fun z => br_c (fun w => by rw [if_pos z, if_pos w] at h; exact h) (fun w => by rw [if_pos z, if_neg w] at h; exact h)) (fun z => by rw [if_neg z] at h; exact h)
theorem fy_c27 {post : Int32 → Prop} {x y : Int32} (h : post (if x = 0 then 1 else 0)) : wpY_calculate post 27 x y := by
  refine br_f (by decide) (br_t (by decide) ?_)
  exact br_c (fun z => by rw [if_pos z] at h; exact h) (fun z => by rw [if_neg z] at h; exact h)
end FYB
