section FRL
variable {sz tk ln an tq lq yk yl th ef yq lr : Nat → Int32} {go : Nat → Int64} {gu ye yd : Nat → Int32}
/-! slots that hold the same -/
theorem fs_L {j k : Nat} (h : fc_sm tk ln j tq lq k) : fc_L lq k = fc_L ln j := (fc_sm_T h).1
theorem fs_s {j k : Nat} (h : fc_sm tk ln j tq lq k) : fc_sm tq lq k tk ln j :=
  ⟨h.1.symm, fun i hi => (h.2 i (by rw [← fs_L h]; exact hi)).symm⟩
theorem fs_t {j k l : Nat} (h : fc_sm tk ln j tq lq k) (g : fc_sm tq lq k yk yl l) : fc_sm tk ln j yk yl l :=
  ⟨g.1.trans h.1, fun i hi => (g.2 i (by rw [fs_L h]; exact hi)).trans (h.2 i hi)⟩
def fx_s (tk ln : Nat → Int32) (j : Nat) : Prop := ln j = nI (fc_L ln j) ∧ fc_L ln j ≤ 12 ∧ (fc_L ln j = 0 ∨ fc_ok tk ln j)
theorem fs_m {j k : Nat} (h : fc_sm tk ln j tq lq k) (s : fx_s tk ln j) : fx_s tq lq k := by
  have e := fs_L h
  refine ⟨?_, by rw [e]; exact s.2.1, ?_⟩
  · rw [e, h.1]; exact s.1
  · rw [e]; exact s.2.2.imp id (fc_sm_ok h)
theorem fs_0 {j : Nat} (h : ln j = 0) : fx_s tk ln j := by
  have e : fc_L ln j = 0 := by unfold fc_L; rw [h]; rfl
  exact ⟨by rw [e]; exact h, by omega, Or.inl e⟩
theorem fs_l {j : Nat} (h : lq j = ln j) : fc_sm tk ln j tk lq j := ⟨h, fun _ _ => rfl⟩
theorem fs_L0 {j : Nat} (h : ln j = 0) : fc_L ln j = 0 := by unfold fc_L; rw [h]; rfl
/-- a draft taken into slot j -/
theorem fs_cj {j : Nat} (hj : 1 ≤ j) (h : fc_cp tk tq j (fc_L ln 0)) : fc_sm tk ln 0 tq (upd (upd ln j (ln 0)) 0 0) j := by
  refine ⟨?_, fun i hi => ?_⟩
  · rw [pk_un (by omega), pk_us]
  · rw [h.1 i hi, Nat.zero_mul, Nat.zero_add]
theorem fs_co {j m : Nat} (hm : 1 ≤ m) (e : m ≠ j) (hL : fc_L ln m ≤ 12) (hL0 : fc_L ln 0 ≤ 12) (h : fc_cp tk tq j (fc_L ln 0)) : fc_sm tk ln m tq (upd (upd ln j (ln 0)) 0 0) m := by
  refine ⟨?_, fun i hi => h.2 _ ?_⟩
  · rw [pk_un (by omega), pk_un e]
  · omega
theorem fs_d {m : Nat} (hm : 1 ≤ m) : fc_sm tk ln m tk (upd ln 0 0) m := fs_l (pk_un (by omega))
theorem fs_sh0 {tk ln : Nat → Int32} (h : ln 0 = 0) : fc_sh tk ln 0 := by
  have e := fs_L0 h
  exact ⟨by rw [e]; exact h, by omega, fun i hi => absurd hi (by omega)⟩
theorem fs_Z {sz tk ln : Nat → Int32} : fx_S sz tk ln ↔ fc_Z sz ∧ fc_sh tk ln 0 ∧ ∀ j, 1 ≤ j → j < 19 → fx_s tk ln j := Iff.rfl
/-- what is known does not hang on the draft -/
theorem fk_w (h : ∀ j, 1 ≤ j → j < 19 → fc_sm tk ln j tq lq j) {j : Nat} (h1 : 1 ≤ j) (h2 : j < 19) (s : Nat) : fc_w sz tq lq j s = fc_w sz tk ln j s ∧ fc_L lq j = fc_L ln j := ⟨fc_sm_w (h j h1 h2) sz s, fs_L (h j h1 h2)⟩
theorem fk_g (h : ∀ j, 1 ≤ j → j < 19 → fc_sm tk ln j tq lq j) {a : Nat} (ha : a < 4) (s : Nat) : fc_g sz tq lq a s = fc_g sz tk ln a s := by
  unfold fc_g
  rw [(fk_w h (j := 3 + a) (by omega) (by omega) s).1, (fk_w (sz := sz) h (j := 3 + a) (by omega) (by omega) s).2]
theorem fk_al (h : ∀ j, 1 ≤ j → j < 19 → fc_sm tk ln j tq lq j) {a v : Nat} (ha : a < 4) (hv : v < 3) (s x : Nat) : fc_al sz tq lq an a v s x = fc_al sz tk ln an a v s x := by
  unfold fc_al
  rw [(fk_w h (j := 7 + (a * 3 + v)) (by omega) (by omega) s).1, (fk_w (sz := sz) h (j := 7 + (a * 3 + v)) (by omega) (by omega) s).2]
theorem fk_M (h : ∀ j, 1 ≤ j → j < 19 → fc_sm tk ln j tq lq j) {a : Nat} (ha : a < 4) (s t : Nat) : fc_M sz tq lq an a s t = fc_M sz tk ln an a s t := by
  unfold fc_M
  rw [fk_g h ha, fk_al h ha (by omega), fk_al h ha (by omega), fk_al h ha (by omega)]
theorem fk_st (h : ∀ j, 1 ≤ j → j < 19 → fc_sm tk ln j tq lq j) : fc_st sz tq lq an = fc_st sz tk ln an := by
  funext s t
  unfold fc_st
  apply propext
  constructor
  · rintro ⟨e, a, ha, m⟩; exact ⟨e, a, ha, by rw [← fk_M h ha]; exact m⟩
  · rintro ⟨e, a, ha, m⟩; exact ⟨e, a, ha, by rw [fk_M h ha]; exact m⟩
theorem fk_i (h : ∀ j, 1 ≤ j → j < 19 → fc_sm tk ln j tq lq j) : fc_i sz tq lq = fc_i sz tk ln := by
  funext s
  unfold fc_i fc_tr
  rw [(fk_w h (j := 1) (by omega) (by omega) s).1, (fk_w (sz := sz) h (j := 1) (by omega) (by omega) s).2]
theorem fk_ek {M M' : Nat → Nat → Nat → Bool} {a s : Nat} (h : ∀ t, M a s t = M' a s t) : ∀ k, fc_ek M a s k = fc_ek M' a s k := by
  intro k
  induction k with
  | zero => rfl
  | succ k ih =>
    show (fc_ek M a s k || (decide (k ≠ s) && M a s k)) = (fc_ek M' a s k || (decide (k ≠ s) && M' a s k))
    rw [ih, h k]
theorem fk_K (h : ∀ j, 1 ≤ j → j < 19 → fc_sm tk ln j tq lq j) (K : fy_K sz tk ln an go gu ye yd) : fy_K sz tq lq an go gu ye yd := by
  obtain ⟨k1, k2, k3⟩ := K
  refine ⟨fun a s t ha hs ht => ?_, fun s hs => ⟨fb_cg (k2 s hs).1 (fun a ha => (fk_g h ha s).symm), fb_cg (k2 s hs).2 (fun a ha => ?_)⟩, ?_⟩
  · rw [k1 a s t ha hs ht, fk_M h ha]
  · unfold fc_en
    exact (fk_ek (fun t => fk_M h ha s t) _).symm
  · unfold fc_Dp
    rw [fk_st h, fk_i h]; exact k3
end FRL
section FRR
/-! the relation -/
def fr_T (tl te : Int32) (ts tr : Nat → Int32) : Prop := ∃ m, m ≤ 125 ∧ tl = nI m ∧ te = nI m + (-1) ∧ ∀ j, j < m → ts j = tr j
def fr_F (fc fl : Int32) (fs fd : Nat → Int32) : Prop := ∃ m, m ≤ 125 ∧ fc = nI m ∧ fl = nI m ∧ ∀ j, j < m → fs j = fd j
def fr_f (fa : Nat → Int32) : Prop := ∀ a, a < 4 → fa a = 0 ∨ fa a = 1 ∨ fa a = 2
def fr_k (kn : Int32) (sz tk ln an : Nat → Int32) (go : Nat → Int64) (gu ye yd : Nat → Int32) : Prop := kn = 0 ∨ (kn = 1 ∧ fy_K sz tk ln an go gu ye yd)
def i_Rel (k : Nat) (u : SX) (v : SY) : Prop := match u, v with
  | (tl, fc, sz, tk, ln, an, fa, sk, lw, hg, mv, en, dp, ca, rc, re, ho, ae, ta, ow, ts, fs), (kn, te, fl, yk, yl, vs, th, yf, ef, go, gu, ye, yd, wa, al, yc, tr, fd, ys) =>
    sz = vs ∧ fa = yf ∧ fx_S sz tk ln ∧ fy_S tk ln an yk yl th ef ∧ fr_f fa ∧ fr_k kn sz tk ln an go gu ye yd ∧ fr_T tl te ts tr ∧ fr_F fc fl fs fd
theorem i_up {k : Nat} {u : SX} {v : SY} (h : i_Rel k u v) : i_Rel (k + 4) u v := h
def fr_1 : Nat → Int32 := upd (upd (upd (fun _ => 0) 0 1) 1 1) 2 1
theorem fx_i0 {post : SX → Prop} (h : post (0, 0, fr_1, (fun _ => 0), (fun _ => 0), (fun _ => 0), (fun _ => 0), (fun _ => 0), (fun _ => 0), (fun _ => 0), (fun _ => 0), (fun _ => 0), (fun _ => 0), (fun _ => 0), (fun _ => 0), (fun _ => 0), (fun _ => 0), (fun _ => 0), (fun _ => 0), (fun _ => 0), (fun _ => 0), (fun _ => 0))) : wpX_init post := by
  refine ⟨4, ?_⟩
  refine br_f (by decide) ⟨vp_in_nI (n := 0) (by omega) (by omega), nm_e (nm_r (nI_1 0) ?_)⟩
  refine br_f (by decide) ⟨vp_in_nI (n := 1) (by omega) (by omega), nm_e (nm_r (nI_1 1) ?_)⟩
  refine br_f (by decide) ⟨vp_in_nI (n := 2) (by omega) (by omega), nm_e (nm_r (nI_1 2) ?_)⟩
  exact br_t (by decide) h
theorem fy_i0 {post : SY → Prop} (h : post (0, (-1), 0, (fun _ => 0), (fun _ => 0), fr_1, (fun _ => 0), (fun _ => 0), (fun _ => 0), (fun _ => 0), (fun _ => 0), (fun _ => 0), (fun _ => 0), (fun _ => 0), (fun _ => 0), (fun _ => 0), (fun _ => 0), (fun _ => 0), (fun _ => 0))) : wpY_init post := by
  refine ⟨4, ?_⟩
  refine br_f (by decide) ⟨vp_in_nI (n := 0) (by omega) (by omega), nm_e (nm_r (nI_1 0) ?_)⟩
  refine br_f (by decide) ⟨vp_in_nI (n := 1) (by omega) (by omega), nm_e (nm_r (nI_1 1) ?_)⟩
  refine br_f (by decide) ⟨vp_in_nI (n := 2) (by omega) (by omega), nm_e (nm_r (nI_1 2) ?_)⟩
  exact br_t (by decide) h
theorem fr_1v : ∀ v, v < 3 → fr_1 v = nI 1 := by decide
theorem i_vc0 : wpX_init (fun u => wpY_init (fun v => i_Rel 0 u v)) := by
  refine fx_i0 (fy_i0 ⟨rfl, rfl, fs_Z.mpr ⟨fun v hv => ?_, fs_sh0 rfl, fun j _ _ => fs_0 rfl⟩, ⟨fun j _ => ⟨rfl, fun _ _ => rfl⟩, fun a _ => Or.inl ⟨rfl, fs_L0 rfl⟩⟩, fun a _ => Or.inl rfl, Or.inl rfl, ⟨0, by omega, rfl, by decide, fun j hj => absurd hj (by omega)⟩, ⟨0, by omega, rfl, rfl, fun j hj => absurd hj (by omega)⟩⟩)
  have e : fc_z fr_1 v = 1 := by unfold fc_z; rw [fr_1v v hv]; rfl
  rw [e]
  exact ⟨fr_1v v hv, by omega, by omega⟩
end FRR
