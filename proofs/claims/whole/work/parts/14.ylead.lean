section FYL
variable {kn te fl : Int32} {yk yl sz th fa ef : Nat → Int32} {go : Nat → Int64} {gu ye yd : Nat → Int32} {wa al yc : Nat → Int64} {tr fd ys : Nat → Int32} {tk ln an : Nat → Int32}
def fy_bit (a : Nat) : Int32 := (1 : Int32) <<< (nI a &&& 31)
/-- what lead leaves -/
def fy_L (sz tk ln an : Nat → Int32) (a s : Nat) (go : Nat → Int64) (gu ye : Nat → Int32) (go' : Nat → Int64) (gu' ye' : Nat → Int32) : Prop :=
  (∀ b t, b % 2 = 0 → t < 128 → fl_h go' b t = (fl_h go b t || (decide (b = 250 * a + 2 * s ∧ t < fc_N sz) && fc_M sz tk ln an a s t))) ∧
  (∀ s', s' ≠ s → gu' s' = gu s' ∧ ye' s' = ye s') ∧ gu' s = (if fc_g sz tk ln a s then gu s ||| fy_bit a else gu s) ∧ ye' s = (if fc_en sz tk ln an a s then ye s ||| fy_bit a else ye s)
theorem fc_ekf {M : Nat → Nat → Nat → Bool} {a s : Nat} (h : ∀ t, M a s t = false) (k : Nat) : fc_ek M a s k = false := by
  cases e : fc_ek M a s k
  · rfl
  · obtain ⟨t, _, _, q⟩ := (fc_ek_iff M a s k).mp e
    rw [h t] at q; cases q
theorem fy_ld {post : SY → Prop} (S : fx_S sz tk ln) (Y : fy_S tk ln an yk yl th ef) {a s : Nat} (ha : a < 4) (hs : s < fc_N sz) (hth : th a ≠ 0)
    (hp : ∀ ys' go' gu' ye', fy_L sz tk ln an a s go gu ye go' gu' ye' → post (kn, te, fl, yk, yl, sz, th, fa, ef, go', gu', ye', yd, wa, al, yc, tr, fd, ys')) : wpY_lead post (kn, te, fl, yk, yl, sz, th, fa, ef, go, gu, ye, yd, wa, al, yc, tr, fd, ys) (nI a) (nI s) (nI (fc_N sz)) := by
  have hz := S.1
  have hN := fc_N1 hz
  rcases Y.2 a ha with ⟨q, _⟩ | ⟨_, hL, sm, E⟩
  · exact absurd q hth
  obtain ⟨h1, h2, h3⟩ := S.2.2 (3 + a) (by omega) (by omega)
  have i0 : 3 + 4 * nI a = nI (3 + 4 * a) := by rw [← nI_add, ← pk_mul]; rfl
  have j0 : 3 * nI a = nI (a * 3) := by rw [Nat.mul_comm, ← pk_mul]; rfl
  have j1 : 3 * nI a + 1 = nI (a * 3 + 1) := by rw [j0]; exact nI_add (a * 3) 1
  have j2 : 3 * nI a + 2 = nI (a * 3 + 2) := by rw [j0]; exact nI_add (a * 3) 2
  have i3 : 250 * nI a + 2 * nI s = nI (250 * a + 2 * s) := by rw [← nI_add, ← pk_mul, ← pk_mul]; rfl
  unfold wpY_lead
  dsimp only
  rw [i0]
  refine fy_wk hz (by omega) hs (fc_sm_ok sm (h3.resolve_left hL)) (fun ys1 => ?_)
  rw [fc_sm_w sm]
  refine br_c (fun z => ?_) (fun z => ?_)
  · have g : fc_g sz tk ln a s = false := by simp [fc_g, z]
    have m : ∀ t, fc_M sz tk ln an a s t = false := by intro t; unfold fc_M; rw [g, Bool.false_and]
    refine hp ys1 go gu ye ⟨fun b t _ _ => ?_, fun s' _ => ⟨rfl, rfl⟩, ?_, ?_⟩
    · rw [m t, Bool.and_false, Bool.or_false]
    · rw [g]; rfl
    · unfold fc_en; rw [fc_ekf m]; rfl
  · have g : fc_g sz tk ln a s = true := by simp [fc_g, z, hL]
    have m : ∀ t, fc_M sz tk ln an a s t = (fc_al sz tk ln an a 0 s (fc_v sz t 0) && (fc_al sz tk ln an a 1 s (fc_v sz t 1) && fc_al sz tk ln an a 2 s (fc_v sz t 2))) := by
      intro t; unfold fc_M; rw [g, Bool.true_and]
    refine ⟨vp_in_nI (by omega) (by omega), vp_in_nI (by omega) (by omega), ?_⟩
    rw [nI_clamp (by omega)]
    refine nm_e ?_
    refine fy_du S (v := 0) ha (by omega) hs (E 0 (by omega)) (fun ys2 r0 a0 b0 => ?_)
    refine fy_du S (v := 1) ha (by omega) hs (E 1 (by omega)) (fun ys3 r1 a1 b1 => ?_)
    refine fy_du S (v := 2) ha (by omega) hs (E 2 (by omega)) (fun ys4 r2 a2 b2 => ?_)
    have z0 : fc_z sz 0 < 100 := by have := hz 0 (by omega); omega
    have z1 : fc_z sz 1 < 100 := by have := hz 1 (by omega); omega
    have z2 : fc_z sz 2 < 100 := by have := hz 2 (by omega); omega
    refine pk_loop (fun n i p => wY_lead_56 post (nI a) (nI s) (nI (fc_N sz)) r0 r1 r2 n (nI i) kn te fl yk yl sz th fa ef p.1 (upd gu s (gu s ||| fy_bit a)) p.2 yd wa al yc tr fd ys4) (fun i (p : (Nat → Int64) × (Nat → Int32)) => (∀ b t, b % 2 = 0 → t < 128 → fl_h p.1 b t = (fl_h go b t || (decide (b = 250 * a + 2 * s ∧ t < i) && fc_M sz tk ln an a s t))) ∧ (∀ s', s' ≠ s → p.2 s' = ye s') ∧ p.2 s = (if fc_ek (fc_M sz tk ln an) a s i then ye s ||| fy_bit a else ye s)) (fc_N sz) 0 (go, ye) (by omega) ⟨fun b t _ _ => ?_, fun _ _ => rfl, rfl⟩ (fun n p I => ?_) (fun n t p ht I k => ?_)
    · have : decide (b = 250 * a + 2 * s ∧ t < 0) = false := decide_eq_false (by omega)
      rw [this, Bool.false_and, Bool.or_false]
    · obtain ⟨go', ye'⟩ := p
      refine pk_le (fc_N sz) (fc_N sz) (fun _ => hp ys4 go' _ ye' ⟨I.1, fun s' e => ⟨pk_un e, I.2.1 s' e⟩, ?_, I.2.2⟩) (fun q => absurd q (by omega))
      rw [pk_us, g]; rfl
    · obtain ⟨go', ye'⟩ := p
      obtain ⟨I1, I2, I3⟩ := I
      have I3 : ye' s = (if fc_ek (fc_M sz tk ln an) a s t then ye s ||| fy_bit a else ye s) := I3
      refine pk_le (fc_N sz) t (fun q => absurd q (by omega)) (fun _ => ?_)
      have t142 : fc_M sz tk ln an a s t = false → wY_lead_142 post (wY_lead_56 post (nI a) (nI s) (nI (fc_N sz)) r0 r1 r2 n) (nI a) (nI s) (nI (fc_N sz)) r0 r1 r2 (nI t) kn te fl yk yl sz th fa ef go' (upd gu s (gu s ||| fy_bit a)) ye' yd wa al yc tr fd ys4 := by
        intro q
        refine br_t rfl (nm_r (nI_1 t) (k (go', ye') ⟨fun b t' hb ht' => ?_, I2, ?_⟩))
        · show fl_h go' b t' = _
          rw [I1 b t' hb ht']
          congr 1
          by_cases e : t' = t
          · subst e; rw [q, Bool.and_false, Bool.and_false]
          · congr 1; exact decide_eq_decide.mpr (by omega)
        · show ye' s = if (fc_ek (fc_M sz tk ln an) a s t || (decide (t ≠ s) && fc_M sz tk ln an a s t)) = true then _ else _
          rw [q, Bool.and_false, Bool.or_false]; exact I3
      have t138 : fc_M sz tk ln an a s t = true → wY_lead_138 post (wY_lead_56 post (nI a) (nI s) (nI (fc_N sz)) r0 r1 r2 n) (nI a) (nI s) (nI (fc_N sz)) r0 r1 r2 (nI t) kn te fl yk yl sz th fa ef go' (upd gu s (gu s ||| fy_bit a)) ye' yd wa al yc tr fd ys4 := by
        intro q
        refine br_f (by decide) ?_
        rw [i3]
        have hgo : ∀ b t', b % 2 = 0 → t' < 128 → fl_h (fl_put go' (250 * a + 2 * s) t) b t' = (fl_h go b t' || (decide (b = 250 * a + 2 * s ∧ t' < t + 1) && fc_M sz tk ln an a s t')) := by
          intro b t' hb ht'
          rw [fl_hs go' (by omega) hb (by omega) ht', I1 b t' hb ht']
          by_cases e : b = 250 * a + 2 * s ∧ t' = t
          · obtain ⟨rfl, rfl⟩ := e
            simp [q]
          · rw [decide_eq_false e, Bool.or_false]
            congr 2
            exact decide_eq_decide.mpr (by omega)
        refine fy_p_goes (by omega) (by omega) ?_
        refine pk_eq t s (fun e => nm_r (nI_1 t) (k (_, ye') ⟨hgo, I2, ?_⟩)) (fun e => ⟨vp_in_nI (by omega) (by omega), vp_in_nI (by omega) (by omega), ?_⟩)
        · show ye' s = if (fc_ek (fc_M sz tk ln an) a s t || (decide (t ≠ s) && fc_M sz tk ln an a s t)) = true then _ else _
          rw [decide_eq_false (fun w => w e), Bool.false_and, Bool.or_false]; exact I3
        · rw [nI_clamp (by omega)]
          refine nm_e (nm_r (nI_1 t) (k (_, upd ye' s (ye' s ||| fy_bit a)) ⟨hgo, fun s' h' => (pk_un h').trans (I2 s' h'), ?_⟩))
          show upd ye' s (ye' s ||| fy_bit a) s = if (fc_ek (fc_M sz tk ln an) a s t || (decide (t ≠ s) && fc_M sz tk ln an a s t)) = true then _ else _
          rw [pk_us, q, decide_eq_true e, Bool.true_and, Bool.or_true, if_pos rfl, I3]
          cases fc_ek (fc_M sz tk ln an) a s t
          · rfl
          · show ye s ||| fy_bit a ||| fy_bit a = _
            rw [Int32.or_assoc, Int32.or_self]
      have v0 := fc_vlt hz t (v := 0) (by omega)
      have v1 := fc_vlt hz t (v := 1) (by omega)
      have v2 := fc_vlt hz t (v := 2) (by omega)
      have t112 : fc_al sz tk ln an a 0 s (fc_v sz t 0) = true → fc_al sz tk ln an a 1 s (fc_v sz t 1) = true → wY_lead_112 post (wY_lead_56 post (nI a) (nI s) (nI (fc_N sz)) r0 r1 r2 n) (nI a) (nI s) (nI (fc_N sz)) r0 r1 r2 (nI t) kn te fl yk yl sz th fa ef go' (upd gu s (gu s ||| fy_bit a)) ye' yd wa al yc tr fd ys4 := by
        intro q0 q1
        have mm : fc_M sz tk ln an a s t = fc_al sz tk ln an a 2 s (fc_v sz t 2) := by rw [m t, q0, q1]; rfl
        unfold wY_lead_112
        rw [j2, nI_clamp (by omega)]
        refine ⟨vp_in_nI (by omega) (by omega), br_c (fun e => t138 (mm.trans (a2 e _))) (fun e => fy_vo (v := 2) hz ht (by omega) (br_c (fun w => t138 (mm.trans ((b2 e _ v2).mpr w))) (fun w => t142 (mm.trans ?_))))⟩
        cases f : fc_al sz tk ln an a 2 s (fc_v sz t 2)
        · rfl
        · exact absurd ((b2 e _ v2).mp f) w
      have t86 : fc_al sz tk ln an a 0 s (fc_v sz t 0) = true → wY_lead_86 post (wY_lead_56 post (nI a) (nI s) (nI (fc_N sz)) r0 r1 r2 n) (nI a) (nI s) (nI (fc_N sz)) r0 r1 r2 (nI t) kn te fl yk yl sz th fa ef go' (upd gu s (gu s ||| fy_bit a)) ye' yd wa al yc tr fd ys4 := by
        intro q0
        unfold wY_lead_86
        rw [j1, nI_clamp (by omega)]
        refine ⟨vp_in_nI (by omega) (by omega), br_c (fun e => t112 q0 (a1 e _)) (fun e => fy_vo (v := 1) hz ht (by omega) (br_c (fun w => t112 q0 ((b1 e _ v1).mpr w)) (fun w => t142 ?_)))⟩
        cases f : fc_al sz tk ln an a 1 s (fc_v sz t 1)
        · rw [m t, f, Bool.false_and, Bool.and_false]
        · exact absurd ((b1 e _ v1).mp f) w
      rw [j0, nI_clamp (by omega)]
      refine ⟨vp_in_nI (by omega) (by omega), br_c (fun e => t86 (a0 e _)) (fun e => fy_vo (v := 0) hz ht (by omega) (br_c (fun w => t86 ((b0 e _ v0).mpr w)) (fun w => t142 ?_)))⟩
      cases f : fc_al sz tk ln an a 0 s (fc_v sz t 0)
      · rw [m t, f, Bool.false_and]
      · exact absurd ((b0 e _ v0).mp f) w
end FYL
