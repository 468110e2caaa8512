section FYT
variable {kn te fl : Int32} {yk yl sz th fa ef : Nat → Int32} {go : Nat → Int64} {gu ye yd : Nat → Int32} {wa al yc : Nat → Int64} {tr fd ys : Nat → Int32} {tk ln an : Nat → Int32}
/-- what Y keeps of an effect -/
def fy_e (tk ln an yk yl ef : Nat → Int32) (a v : Nat) : Prop :=
  (ef (a * 3 + v) = 0 ∧ fc_L ln (7 + (a * 3 + v)) = 0 ∧ an (a * 3 + v) = 0) ∨ (ef (a * 3 + v) = 1 ∧ fc_L ln (7 + (a * 3 + v)) ≠ 0 ∧ fc_sm tk ln (7 + (a * 3 + v)) yk yl (3 + 4 * a + 1 + v)) ∨ (ef (a * 3 + v) = 2 ∧ fc_L ln (7 + (a * 3 + v)) = 0 ∧ an (a * 3 + v) ≠ 0)
def fy_S (tk ln an yk yl th ef : Nat → Int32) : Prop :=
  (∀ j, j < 3 → fc_sm tk ln j yk yl j) ∧ ∀ a, a < 4 → (th a = 0 ∧ fc_L ln (3 + a) = 0) ∨ (th a = 1 ∧ fc_L ln (3 + a) ≠ 0 ∧ fc_sm tk ln (3 + a) yk yl (3 + 4 * a) ∧ ∀ v, v < 3 → fy_e tk ln an yk yl ef a v)
theorem fy_th {a : Nat} (h : fy_S tk ln an yk yl th ef) (ha : a < 4) : th a = 0 ↔ fc_L ln (3 + a) = 0 := by
  rcases h.2 a ha with ⟨e, k⟩ | ⟨e, k, _⟩
  · exact ⟨fun _ => k, fun _ => e⟩
  · exact ⟨fun z => absurd (e.symm.trans z) (by decide), fun z => absurd z k⟩
theorem fy_M0 {a s t : Nat} (h : fc_L ln (3 + a) = 0) : fc_M sz tk ln an a s t = false := by
  unfold fc_M fc_g
  rw [decide_eq_false (fun k => k h)]; rfl
def fy_G (sz tk ln an : Nat → Int32) (go : Nat → Int64) : Prop := ∀ a s t, a < 4 → s < fc_N sz → t < fc_N sz → fl_h go (250 * a + 2 * s) t = fc_M sz tk ln an a s t
theorem fy_gt {post : Int32 → Prop} (hz : fc_Z sz) (Y : fy_S tk ln an yk yl th ef) (G : fy_G sz tk ln an go) {a s t : Nat} (ha : a < 4) (hs : s < fc_N sz) (ht : t < fc_N sz)
    (h1 : fc_M sz tk ln an a s t = true → post 1) (h0 : fc_M sz tk ln an a s t = false → post 0) : wpY_goesTo post (kn, te, fl, yk, yl, sz, th, fa, ef, go, gu, ye, yd, wa, al, yc, tr, fd, ys) (nI a) (nI s) (nI t) := by
  have hN := fc_N1 hz
  refine ⟨vp_in_nI ha (by omega), ?_⟩
  rw [nI_clamp (by omega)]
  refine br_c (fun z => h0 (fy_M0 ((fy_th Y ha).mp z))) (fun z => ?_)
  have e : 250 * nI a + 2 * nI s = nI (250 * a + 2 * s) := by
    rw [← nI_add, ← pk_mul, ← pk_mul]; rfl
  rw [e]
  have g := G a s t ha hs ht
  refine fy_h_goes (by omega) (by omega) (fun q => br_f (by decide) (h1 ?_)) (fun q => br_t rfl (h0 ?_))
  · rw [← g]; exact q
  · rw [← g]; exact q
theorem fy_sp {post : Int32 → Prop} (hz : fc_Z sz) (Y : fy_S tk ln an yk yl th ef) (G : fy_G sz tk ln an go) {s t : Nat} (hs : s < fc_N sz) (ht : t < fc_N sz)
    (h1 : fc_st sz tk ln an s t → post 1) (h0 : ¬ fc_st sz tk ln an s t → post 0) : wpY_step post (kn, te, fl, yk, yl, sz, th, fa, ef, go, gu, ye, yd, wa, al, yc, tr, fd, ys) (nI s) (nI t) := by
  have hN := fc_N1 hz
  refine pk_loop (fun n i x => wY_step_5 post (nI s) (nI t) kn te fl yk yl sz th fa ef go gu ye yd wa al yc tr fd ys n x (nI i)) (fun i x => (x = 0 ∧ ∀ a, a < i → fc_M sz tk ln an a s t = false) ∨ (x = 1 ∧ ∃ a, a < i ∧ fc_M sz tk ln an a s t = true)) 4 0 0 (by omega) (Or.inl ⟨rfl, fun a ha => absurd ha (by omega)⟩) (fun n x I => ?_) (fun n i x hi I k => ?_)
  · refine br_t (by decide) ?_
    rcases I with ⟨rfl, I⟩ | ⟨rfl, I⟩
    · refine br_t rfl (h0 ?_)
      rintro ⟨_, a, ha, q⟩
      rw [I a ha] at q; cases q
    · refine br_f (by decide) (pk_eq s t (fun e => h0 (fun z => z.1 e)) (fun e => h1 ⟨e, I⟩))
  · refine pk_le 4 i (fun z => absurd z (by omega)) (fun _ => ?_)
    refine fy_gt hz Y G hi hs ht (fun q => ?_) (fun q => ?_)
    · rcases I with ⟨rfl, I⟩ | ⟨rfl, I⟩
      · exact nm_e (nm_r (nI_1 i) (k _ (Or.inr ⟨by decide, i, by omega, q⟩)))
      · exact nm_e (nm_r (nI_1 i) (k _ (Or.inr ⟨by decide, i, by omega, q⟩)))
    · rcases I with ⟨rfl, I⟩ | ⟨rfl, a, ha, I⟩
      · refine nm_e (nm_r (nI_1 i) (k _ (Or.inl ⟨by decide, fun a ha => ?_⟩)))
        by_cases e : a = i
        · subst e; exact q
        · exact I a (by omega)
      · exact nm_e (nm_r (nI_1 i) (k _ (Or.inr ⟨by decide, a, by omega, I⟩)))
theorem fy_du {post : Int32 → SY → Prop} (S : fx_S sz tk ln) {a v s : Nat} (ha : a < 4) (hv : v < 3) (hs : s < fc_N sz) (E : fy_e tk ln an yk yl ef a v)
    (hp : ∀ ys' r, (ef (a * 3 + v) = 2 → ∀ x, fc_al sz tk ln an a v s x = true) → (ef (a * 3 + v) ≠ 2 → ∀ x, x < fc_z sz v → (fc_al sz tk ln an a v s x = true ↔ nI x = r)) → post r (kn, te, fl, yk, yl, sz, th, fa, ef, go, gu, ye, yd, wa, al, yc, tr, fd, ys')) : wpY_due post (kn, te, fl, yk, yl, sz, th, fa, ef, go, gu, ye, yd, wa, al, yc, tr, fd, ys) (nI a) (nI v) (nI s) := by
  have hN := fc_N1 S.1
  have i1 : 3 * nI a + nI v = nI (a * 3 + v) := by
    rw [← nI_add, Nat.mul_comm, ← pk_mul]; rfl
  have i2 : 3 + 4 * nI a + 1 + nI v = nI (3 + 4 * a + 1 + v) := by
    rw [← nI_add, ← nI_1, ← nI_add, ← pk_mul]; rfl
  unfold wpY_due
  refine fy_vo S.1 hs hv ?_
  rw [i1, i2, nI_clamp (by omega), nI_clamp (by omega)]
  refine ⟨vp_in_nI (by omega) (by omega), ?_⟩
  obtain ⟨h1, h2, h3⟩ := S.2.2 (7 + (a * 3 + v)) (by omega) (by omega)
  obtain ⟨z1, z2, z3⟩ := S.1 v hv
  have h0 : ¬ sz v = 0 := by rw [z1]; exact nI_ne0 (by omega) (by omega)
  have keep : ef (a * 3 + v) ≠ 1 → post (nI (fc_v sz s v)) (kn, te, fl, yk, yl, sz, th, fa, ef, go, gu, ye, yd, wa, al, yc, tr, fd, ys) := by
    intro n1
    refine hp ys _ (fun e x => ?_) (fun e x hx => ?_)
    · rcases E with ⟨q, _⟩ | ⟨q, _⟩ | ⟨_, q1, q2⟩
      · rw [e] at q; exact absurd q (by decide)
      · exact absurd q n1
      · unfold fc_al
        rw [if_neg (fun w => w q1), if_neg q2]
    · rcases E with ⟨_, q1, q2⟩ | ⟨q, _⟩ | ⟨q, _⟩
      · unfold fc_al
        rw [if_neg (fun w => w q1), if_pos q2, decide_eq_true_iff]
        have := fc_vlt S.1 s hv
        rw [nI_eq (by omega) (by omega)]
      · exact absurd q n1
      · exact absurd q e
  refine br_c (fun e => ?_) (fun e => keep e)
  rcases E with ⟨q, _⟩ | ⟨_, q1, q2⟩ | ⟨q, _⟩
  · rw [e] at q; exact absurd q (by decide)
  · refine fy_wk S.1 (by omega) hs (fc_sm_ok q2 (h3.resolve_left q1)) (fun ys' => ?_)
    refine ⟨vp_in_nI hv (by omega), h0, ?_⟩
    rw [fc_sm_w q2]
    have fin : ∀ r, r = fc_rd (fc_w sz tk ln (7 + (a * 3 + v)) s) (sz v) → post r (kn, te, fl, yk, yl, sz, th, fa, ef, go, gu, ye, yd, wa, al, yc, tr, fd, ys') := by
      intro r er
      refine hp ys' r (fun e2 => ?_) (fun _ x _ => ?_)
      · rw [e] at e2; exact absurd e2 (by decide)
      · unfold fc_al
        rw [if_pos q1, decide_eq_true_iff, er]
    refine nm_e (br_c (fun w => fin _ ?_) (fun w => ⟨vp_in_nI hv (by omega), fin _ ?_⟩))
    · unfold fc_rd; rw [if_pos w]
    · unfold fc_rd; rw [if_neg w]
  · rw [e] at q; exact absurd q (by decide)
end FYT
