section FCT
variable {tl fc : Int32} {sz tk ln an fa sk lw hg mv en dp ca rc : Nat → Int32} {re : Nat → Int64} {ho ae ta ow ts fs : Nat → Int32} {kn te fl : Int32} {yk yl th ef : Nat → Int32} {go : Nat → Int64} {gu ye yd : Nat → Int32} {wa al yc : Nat → Int64} {tr fd ys : Nat → Int32}
noncomputable def fq_1 (w N : Nat) (dp en : Nat → Int32) (st : Nat → Nat → Prop) (s : Nat) : Nat :=
  if w = 0 then 1 else if w = 1 then (if dp s = 0 then 1 else 0) else if w = 2 then (if dp s < 0 then 0 else 1)
  else if w = 4 then (if dp s < 0 then 0 else if en s = 0 then 1 else 0) else if w = 5 then (if dp s < 0 then 0 else fg_cn (st s) N) else 0
noncomputable def fq_s (w N : Nat) (dp en : Nat → Int32) (st : Nat → Nat → Prop) : Nat → Nat
  | 0 => 0
  | s + 1 => fq_s w N dp en st s + fq_1 w N dp en st s
def fq_m (dp : Nat → Int32) : Nat → Int32
  | 0 => -1
  | s + 1 => if dp s ≤ fq_m dp s then fq_m dp s else dp s
theorem fq_0 (N : Nat) (dp en : Nat → Int32) (st : Nat → Nat → Prop) : ∀ s, fq_s 0 N dp en st s = s := by
  intro s
  induction s with
  | zero => rfl
  | succ s ih =>
    show fq_s 0 N dp en st s + 1 = s + 1
    rw [ih]
theorem fq_cg {w N : Nat} {dp en dq eq : Nat → Int32} {st : Nat → Nat → Prop} : ∀ s, (∀ i, i < s → dq i = dp i ∧ eq i = en i) → fq_s w N dq eq st s = fq_s w N dp en st s ∧ fq_m dq s = fq_m dp s := by
  intro s
  induction s with
  | zero => intro _; exact ⟨rfl, rfl⟩
  | succ s ih =>
    intro h
    obtain ⟨a, b⟩ := ih (fun i hi => h i (by omega))
    obtain ⟨c, d⟩ := h s (by omega)
    constructor
    · show fq_s w N dq eq st s + fq_1 w N dq eq st s = fq_s w N dp en st s + fq_1 w N dp en st s
      rw [a]
      unfold fq_1
      rw [c, d]
    · show (if dq s ≤ fq_m dq s then fq_m dq s else dq s) = (if dp s ≤ fq_m dp s then fq_m dp s else dp s)
      rw [b, c]
theorem fx_wo {post : Int32 → Prop} (hz : fc_Z sz) {s : Nat} (hs : s < fc_N sz) (hm : fx_mvs sz tk ln an mv s) (h : post (nI (fg_cn (fc_st sz tk ln an s) (fc_N sz)))) : wpX_waysOut post (tl, fc, sz, tk, ln, an, fa, sk, lw, hg, mv, en, dp, ca, rc, re, ho, ae, ta, ow, ts, fs) (nI s) := by
  have hN := fc_N1 hz
  unfold wpX_waysOut
  refine fx_ns hz ?_
  refine pk_loop (fun n i c => wX_waysOut_10 post (nI s) (nI (fc_N sz)) tl fc sz tk ln an fa sk lw hg mv en dp ca rc re ho ae ta ow ts fs n c (nI i)) (fun i c => c = nI (fg_cn (fc_st sz tk ln an s) i)) (fc_N sz) 0 0 (by omega) rfl (fun n c I => ?_) (fun n i c hi I k => ?_)
  · refine pk_le (fc_N sz) (fc_N sz) (fun _ => ?_) (fun z => absurd z (by omega))
    rw [I]; exact h
  · refine pk_le (fc_N sz) i (fun z => absurd z (by omega)) (fun _ => ?_)
    refine pk_eq i s (fun e => ?_) (fun e => ?_)
    · refine nm_r (nI_1 i) (k c ?_)
      rw [fg_cn_f (fun z => z.1 e.symm)]; exact I
    · have hx : nI s * 125 + nI i = nI (s * 125 + i) := by rw [← nI_add, ← pk_mul]; rfl
      rw [hx, nI_clamp (by omega)]
      refine ⟨vp_in_nI (by omega) (by omega), br_c (fun z => ?_) (fun z => ?_)⟩
      · refine nm_r (nI_1 i) (k c ?_)
        rw [fg_cn_f ((fx_mz hm hi (Ne.symm e)).mp z)]; exact I
      · refine nm_e (nm_r (nI_1 i) (k _ ?_))
        rw [fg_cn_t (Classical.byContradiction (fun w => z ((fx_mz hm hi (Ne.symm e)).mpr w))), I, nI_1]
theorem fx_c5 {post : Int32 → SX → Prop} {J : Int32 → Int32 → Prop} (hz : fc_Z sz) {w s c : Nat} {x z0 : Int32} (hw : w ≤ 5) (hs : s < fc_N sz) (hm : fx_mvs sz tk ln an mv s)
    (h0 : z0 = if dp s < 0 then 0 else 1) (hx : x = if w = 3 then fq_m dp s else nI (fq_s w (fc_N sz) dp en (fc_st sz tk ln an) s))
    (k : J (if w = 3 then fq_m dp (s + 1) else nI (fq_s w (fc_N sz) dp en (fc_st sz tk ln an) (s + 1))) (nI (s + 1))) : wX_count_55 post J (nI w) (nI (fc_N sz)) x (nI s) z0 tl fc sz tk ln an fa sk lw hg mv en dp ca rc re ho ae ta ow ts fs := by
  have hN := fc_N1 hz
  have hss : fq_s w (fc_N sz) dp en (fc_st sz tk ln an) (s + 1) = fq_s w (fc_N sz) dp en (fc_st sz tk ln an) s + fq_1 w (fc_N sz) dp en (fc_st sz tk ln an) s := rfl
  have add : ∀ r, w ≠ 3 → fq_1 w (fc_N sz) dp en (fc_st sz tk ln an) s = r → ∀ y, y = x + nI r → J y (nI (s + 1)) := by
    intro r w3 hr y ey
    rw [if_neg w3, hss, hr, ← nI_add] at k
    rw [if_neg w3] at hx
    rw [ey, hx]; exact k
  refine pk_lt w 0 (fun z => absurd z (by omega)) (fun _ => pk_lt 4 w (fun z => ?_) (fun z => ?_))
  · obtain rfl : w = 5 := by omega
    by_cases d : dp s < 0
    · rw [if_pos d] at h0
      refine br_t h0 (fun y ey => nm_r (nI_1 s) (add 0 (by decide) ?_ y ey))
      show (if dp s < 0 then 0 else _) = 0
      rw [if_pos d]
    · rw [if_neg d] at h0
      refine br_f (by rw [h0]; decide) (fx_wo hz hs hm (fun y ey => nm_r (nI_1 s) (add _ (by decide) ?_ y ey)))
      show (if dp s < 0 then 0 else _) = _
      rw [if_neg d]
  · refine pk_eq w 0 (fun e => ?_) (fun e0 => pk_eq w 1 (fun e => ?_) (fun e1 => pk_eq w 2 (fun e => ?_) (fun e2 => pk_eq w 3 (fun e => ?_) (fun e3 => pk_eq w 4 (fun e => ?_) (fun e4 => absurd z (by omega))))))
    · subst e
      exact fun y ey => nm_r (nI_1 s) (add 1 (by decide) rfl y ey)
    · subst e
      rw [nI_clamp (by omega)]
      refine ⟨vp_in_nI (by omega) (by omega), br_c (fun d y ey => nm_r (nI_1 s) (add 1 (by decide) ?_ y ey)) (fun d y ey => nm_r (nI_1 s) (add 0 (by decide) ?_ y ey))⟩
      · show (if dp s = 0 then 1 else 0) = 1
        rw [if_pos d]
      · show (if dp s = 0 then 1 else 0) = 0
        rw [if_neg d]
    · subst e
      by_cases d : dp s < 0
      · rw [if_pos d] at h0
        refine br_t h0 (fun y ey => nm_r (nI_1 s) (add 0 (by decide) ?_ y ey))
        show (if dp s < 0 then 0 else 1) = 0
        rw [if_pos d]
      · rw [if_neg d] at h0
        refine br_f (by rw [h0]; decide) (fun y ey => nm_r (nI_1 s) (add 1 (by decide) ?_ y ey))
        show (if dp s < 0 then 0 else 1) = 1
        rw [if_neg d]
    · subst e
      rw [if_pos rfl] at hx
      rw [if_pos rfl] at k
      have k : J (if dp s ≤ fq_m dp s then fq_m dp s else dp s) (nI (s + 1)) := k
      rw [nI_clamp (by omega), hx]
      refine ⟨vp_in_nI (by omega) (by omega), br_c (fun d => nm_r (nI_1 s) ?_) (fun d => ⟨vp_in_nI (by omega) (by omega), nm_e (nm_r (nI_1 s) ?_)⟩)⟩
      · rw [if_pos d] at k; exact k
      · rw [if_neg d] at k; exact k
    · subst e
      by_cases d : dp s < 0
      · rw [if_pos d] at h0
        refine br_t h0 (fun y ey => nm_r (nI_1 s) (add 0 (by decide) ?_ y ey))
        show (if dp s < 0 then 0 else _) = 0
        rw [if_pos d]
      · rw [if_neg d] at h0
        rw [nI_clamp (by omega)]
        refine br_f (by rw [h0]; decide) ⟨vp_in_nI (by omega) (by omega), br_c (fun q y ey => nm_r (nI_1 s) (add 1 (by decide) ?_ y ey)) (fun q y ey => nm_r (nI_1 s) (add 0 (by decide) ?_ y ey))⟩
        · show (if dp s < 0 then 0 else if en s = 0 then 1 else 0) = 1
          rw [if_neg d, if_pos q]
        · show (if dp s < 0 then 0 else if en s = 0 then 1 else 0) = 0
          rw [if_neg d, if_neg q]
theorem fx_cl {post : Int32 → SX → Prop} (hz : fc_Z sz) {w : Nat} (hw : w ≤ 5) (hm : ∀ s, s < fc_N sz → fx_mvs sz tk ln an mv s) {x : Int32} (hx : x = if w = 3 then fq_m dp 0 else nI (fq_s w (fc_N sz) dp en (fc_st sz tk ln an) 0))
    (hp : post (if w = 3 then fq_m dp (fc_N sz) else nI (fq_s w (fc_N sz) dp en (fc_st sz tk ln an) (fc_N sz))) (tl, fc, sz, tk, ln, an, fa, sk, lw, hg, mv, en, dp, ca, rc, re, ho, ae, ta, ow, ts, fs)) : ∃ n, wX_count_34 post (nI w) (nI (fc_N sz)) tl fc sz tk ln an fa sk lw hg mv en dp ca rc re ho ae ta ow ts fs n x 0 := by
  have hN := fc_N1 hz
  refine pk_loop (fun n i c => wX_count_34 post (nI w) (nI (fc_N sz)) tl fc sz tk ln an fa sk lw hg mv en dp ca rc re ho ae ta ow ts fs n c (nI i)) (fun i c => c = if w = 3 then fq_m dp i else nI (fq_s w (fc_N sz) dp en (fc_st sz tk ln an) i)) (fc_N sz) 0 x (by omega) hx (fun n c I => ?_) (fun n i c hi I k => ?_)
  · refine pk_le (fc_N sz) (fc_N sz) (fun _ => ?_) (fun z => absurd z (by omega))
    rw [I]; exact hp
  · refine pk_le (fc_N sz) i (fun z => absurd z (by omega)) (fun _ => ?_)
    rw [nI_clamp (by omega)]
    refine ⟨vp_in_nI (by omega) (by omega), br_c (fun d => ?_) (fun d => ?_)⟩
    · exact fx_c5 hz (c := 0) hw hi (hm i hi) (by rw [if_pos d]) I (k _ rfl)
    · exact fx_c5 hz (c := 0) hw hi (hm i hi) (by rw [if_neg d]) I (k _ rfl)
/-! Y's count -/
theorem fy_12 {post : Int32 → SY → Prop} {J : Int32 → Int32 → Int32 → Prop} (hz : fc_Z sz) (Y : fy_S tk ln an yk yl th ef) (G : fy_G sz tk ln an go) {w s c : Nat} {m : Int32} (hw : w ≤ 5) (hs : s < fc_N sz)
    (k : J (nI (c + (if w = 5 then (if yd s < 0 then 0 else fg_cn (fc_st sz tk ln an s) (fc_N sz)) else 0))) m (nI (s + 1))) : ∃ n, wY_count_122 post J (nI w) (nI (fc_N sz)) m (nI s) kn te fl yk yl sz th fa ef go gu ye yd wa al yc tr fd ys n (nI c) 0 := by
  have hN := fc_N1 hz
  by_cases w5 : w = 5
  · rw [if_pos w5] at k
    by_cases d : yd s < 0
    · rw [if_pos d, Nat.add_zero] at k
      refine ⟨1, ?_⟩
      refine pk_le (fc_N sz) 0 (fun z => absurd z (by omega)) (fun _ => pk_eq w 5 (fun _ => ?_) (fun z => absurd w5 z))
      rw [nI_clamp (by omega)]
      exact ⟨vp_in_nI (by omega) (by omega), br_t d (nm_r (nI_1 s) k)⟩
    · rw [if_neg d] at k
      refine pk_loop (fun n i x => wY_count_122 post J (nI w) (nI (fc_N sz)) m (nI s) kn te fl yk yl sz th fa ef go gu ye yd wa al yc tr fd ys n x (nI i)) (fun i x => x = nI (c + fg_cn (fc_st sz tk ln an s) i)) (fc_N sz) 0 (nI c) (by omega) rfl (fun n x I => ?_) (fun n i x hi I k2 => ?_)
      · refine pk_le (fc_N sz) (fc_N sz) (fun _ => nm_r (nI_1 s) ?_) (fun z => absurd z (by omega))
        rw [I]; exact k
      · refine pk_le (fc_N sz) i (fun z => absurd z (by omega)) (fun _ => pk_eq w 5 (fun _ => ?_) (fun z => absurd w5 z))
        rw [nI_clamp (by omega)]
        refine ⟨vp_in_nI (by omega) (by omega), br_f d (fy_sp hz Y G hs hi (fun z => br_f (by decide) ?_) (fun z => br_t rfl ?_))⟩
        · refine nm_e (nm_r (nI_1 i) (k2 _ ?_))
          rw [fg_cn_t z, I, nI_1, Nat.add_assoc]
        · refine nm_r (nI_1 i) (k2 _ ?_)
          rw [fg_cn_f z, I]
  · rw [if_neg w5, Nat.add_zero] at k
    refine ⟨1, ?_⟩
    exact pk_le (fc_N sz) 0 (fun z => absurd z (by omega)) (fun _ => pk_eq w 5 (fun z => absurd z w5) (fun _ => nm_r (nI_1 s) k))
theorem fy_61 {post : Int32 → SY → Prop} {J : Int32 → Int32 → Int32 → Prop} (hz : fc_Z sz) (Y : fy_S tk ln an yk yl th ef) (G : fy_G sz tk ln an go) {w s c : Nat} {m : Int32} (hw1 : 1 ≤ w) (hw : w ≤ 5) (hs : s < fc_N sz)
    (k : J (nI (c + fq_1 w (fc_N sz) yd ye (fc_st sz tk ln an) s)) m (nI (s + 1))) : wY_count_61 post J (nI w) (nI (fc_N sz)) (nI c) m (nI s) kn te fl yk yl sz th fa ef go gu ye yd wa al yc tr fd ys := by
  have hN := fc_N1 hz
  have hss : s < 125 := by omega
  have go1 : ∀ r, (fq_1 w (fc_N sz) yd ye (fc_st sz tk ln an) s = r) → w ≠ 5 → ∃ n, wY_count_122 post J (nI w) (nI (fc_N sz)) m (nI s) kn te fl yk yl sz th fa ef go gu ye yd wa al yc tr fd ys n (nI (c + r)) 0 := by
    intro r hr w5
    refine fy_12 hz Y G hw hs ?_
    rw [if_neg w5, Nat.add_zero, ← hr]; exact k
  have t91 : w ≠ 1 → w ≠ 2 → wY_count_91 post J (nI w) (nI (fc_N sz)) (nI c) m (nI s) kn te fl yk yl sz th fa ef go gu ye yd wa al yc tr fd ys := by
    intro n1 n2
    refine pk_eq w 4 (fun e => ?_) (fun e => ?_)
    · subst e
      rw [nI_clamp (by omega)]
      refine ⟨vp_in_nI (by omega) (by omega), br_c (fun d => go1 0 ?_ (by decide)) (fun d => ⟨vp_in_nI (by omega) (by omega), br_c (fun q => nm_r (nI_1 c) (go1 1 ?_ (by decide))) (fun q => go1 0 ?_ (by decide))⟩)⟩
      · show (if yd s < 0 then 0 else _) = 0
        rw [if_pos d]
      · show (if yd s < 0 then 0 else if ye s = 0 then 1 else 0) = 1
        rw [if_neg d, if_pos q]
      · show (if yd s < 0 then 0 else if ye s = 0 then 1 else 0) = 0
        rw [if_neg d, if_neg q]
    · refine fy_12 hz Y G hw hs ?_
      have : fq_1 w (fc_N sz) yd ye (fc_st sz tk ln an) s = (if w = 5 then (if yd s < 0 then 0 else fg_cn (fc_st sz tk ln an s) (fc_N sz)) else 0) := by
        unfold fq_1
        rw [if_neg (by omega), if_neg n1, if_neg n2, if_neg e]
      rw [← this]; exact k
  have t76 : w ≠ 1 → wY_count_76 post J (nI w) (nI (fc_N sz)) (nI c) m (nI s) kn te fl yk yl sz th fa ef go gu ye yd wa al yc tr fd ys := by
    intro n1
    refine pk_eq w 2 (fun e => ?_) (fun e => t91 n1 e)
    subst e
    rw [nI_clamp (by omega)]
    refine ⟨vp_in_nI (by omega) (by omega), br_c (fun d => nm_r (nI_1 c) (go1 1 ?_ (by decide))) (fun d => ?_)⟩
    · show (if yd s < 0 then 0 else 1) = 1
      rw [if_neg (Int32.not_lt.mpr d)]
    · refine br_f (by decide) (go1 0 ?_ (by decide))
      show (if yd s < 0 then 0 else 1) = 0
      rw [if_pos (fn_nl.mp d)]
  refine pk_eq w 1 (fun e => ?_) (fun e => t76 e)
  subst e
  rw [nI_clamp (by omega)]
  refine ⟨vp_in_nI (by omega) (by omega), br_c (fun d => nm_r (nI_1 c) (go1 1 ?_ (by decide))) (fun d => ?_)⟩
  · show (if yd s = 0 then 1 else 0) = 1
    rw [if_pos d]
  · refine br_f (by decide) (br_f (by decide) (go1 0 ?_ (by decide)))
    show (if yd s = 0 then 1 else 0) = 0
    rw [if_neg d]
theorem fy_cl {post : Int32 → SY → Prop} (hz : fc_Z sz) (Y : fy_S tk ln an yk yl th ef) (G : fy_G sz tk ln an go) {w : Nat} (hw1 : 1 ≤ w) (hw : w ≤ 5)
    (hp : post (if w = 3 then fq_m yd (fc_N sz) else nI (fq_s w (fc_N sz) yd ye (fc_st sz tk ln an) (fc_N sz))) (kn, te, fl, yk, yl, sz, th, fa, ef, go, gu, ye, yd, wa, al, yc, tr, fd, ys)) : ∃ n, wY_count_34 post (nI w) (nI (fc_N sz)) kn te fl yk yl sz th fa ef go gu ye yd wa al yc tr fd ys n 0 (-1) 0 := by
  have hN := fc_N1 hz
  refine pk_loop (fun n i (p : Int32 × Int32) => wY_count_34 post (nI w) (nI (fc_N sz)) kn te fl yk yl sz th fa ef go gu ye yd wa al yc tr fd ys n p.1 p.2 (nI i)) (fun i p => p.1 = nI (fq_s w (fc_N sz) yd ye (fc_st sz tk ln an) i) ∧ p.2 = fq_m yd i) (fc_N sz) 0 (0, -1) (by omega) ⟨rfl, rfl⟩ (fun n p I => ?_) (fun n i p hi I k => ?_)
  · obtain ⟨x, m⟩ := p
    obtain ⟨I1, I2⟩ := I
    have I1 : x = _ := I1
    have I2 : m = _ := I2
    refine pk_le (fc_N sz) (fc_N sz) (fun _ => pk_eq w 3 (fun e => ?_) (fun e => ?_)) (fun z => absurd z (by omega))
    · rw [if_pos e] at hp
      dsimp only
      rw [I2]; exact hp
    · rw [if_neg e] at hp
      dsimp only
      rw [I1]; exact hp
  · obtain ⟨x, m⟩ := p
    obtain ⟨I1, I2⟩ := I
    have I1 : x = _ := I1
    have I2 : m = _ := I2
    subst I1 I2
    refine pk_le (fc_N sz) i (fun z => absurd z (by omega)) (fun _ => ?_)
    rw [nI_clamp (by omega)]
    refine ⟨vp_in_nI (by omega) (by omega), br_c (fun d => ?_) (fun d => ⟨vp_in_nI (by omega) (by omega), nm_e ?_⟩)⟩
    · refine fy_61 hz Y G hw1 hw hi (k (_, _) ⟨rfl, ?_⟩)
      show _ = if yd i ≤ fq_m yd i then fq_m yd i else yd i
      rw [if_pos d]
    · refine fy_61 hz Y G hw1 hw hi (k (_, _) ⟨rfl, ?_⟩)
      show _ = if yd i ≤ fq_m yd i then fq_m yd i else yd i
      rw [if_neg d]
theorem i_vc_count {k : Nat} {u : SX} {v : SY} (I : i_Rel k u v) (hk : k + 4 ≤ 2048) (v1 : Int32) : wpX_count (fun r u' => wpY_count (fun r' v' => r' = r ∧ i_Rel (k + 4) u' v') v v1) u v1 := by
  obtain ⟨tl, fc, sz, tk, ln, an, fa, sk, lw, hg, mv, en, dp, ca, rc, re, ho, ae, ta, ow, ts, fs⟩ := u
  obtain ⟨kn, te, fl, yk, yl, vs, th, yf, ef, go, gu, ye, yd, wa, al, yc, tr, fd, ys⟩ := v
  have I : i_Rel (k + 4) (tl, fc, sz, tk, ln, an, fa, sk, lw, hg, mv, en, dp, ca, rc, re, ho, ae, ta, ow, ts, fs) (kn, te, fl, yk, yl, vs, th, yf, ef, go, gu, ye, yd, wa, al, yc, tr, fd, ys) := I
  obtain ⟨rfl, rfl, S, Y, Fa, K, T, F⟩ := id I
  have hz := S.1
  have hN := fc_N1 hz
  have yn : (v1 < 0 ∨ 5 < v1) → wpY_count (fun r' v' => r' = -1 ∧ i_Rel (k + 4) (tl, fc, sz, tk, ln, an, fa, sk, lw, hg, mv, en, dp, ca, rc, re, ho, ae, ta, ow, ts, fs) v') (kn, te, fl, yk, yl, sz, th, fa, ef, go, gu, ye, yd, wa, al, yc, tr, fd, ys) v1 := by
    intro hh
    unfold wpY_count
    refine fy_kn S Y K (fun go' gu' ye' yd' ys' KK => fy_ns hz (br_f ?_ (fy_in (fun a b => absurd hh ?_) (fun _ => br_t rfl ⟨rfl, rfl, rfl, S, Y, Fa, Or.inr ⟨rfl, KK⟩, T, F⟩))))
    · intro e
      rw [e] at hh
      exact absurd hh (by decide)
    · rintro (q | q)
      · exact a (Int32.lt_trans q (by decide))
      · exact b q
  refine br_c (fun z => yn (Or.inl z)) (fun z => br_c (fun z2 => ?_) (fun z2 => yn (Or.inr (fn_nl.mp z2))))
  obtain ⟨w, hw, rfl⟩ := nI_of (x := v1) z
  have w5 : w ≤ 5 := by
    rw [show (5 : Int32) = nI 5 from rfl, nI_leI hw (by omega)] at z2; exact z2
  refine fx_ex S (fun sk' lw' hg' mv' en' dp' XX => fx_ns hz ?_)
  have fin : wpY_count (fun r' v' => r' = (if w = 3 then fq_m dp' (fc_N sz) else nI (fq_s w (fc_N sz) dp' en' (fc_st sz tk ln an) (fc_N sz))) ∧ i_Rel (k + 4) (tl, fc, sz, tk, ln, an, fa, sk', lw', hg', mv', en', dp', ca, rc, re, ho, ae, ta, ow, ts, fs) v') (kn, te, fl, yk, yl, sz, th, fa, ef, go, gu, ye, yd, wa, al, yc, tr, fd, ys) (nI w) := by
    unfold wpY_count
    refine fy_kn S Y K (fun go' gu' ye' yd' ys' KK => fy_ns hz ?_)
    obtain ⟨e1, e2⟩ := fq_cg (w := w) (N := fc_N sz) (st := fc_st sz tk ln an) (dp := dp') (en := en') (dq := yd') (eq := ye') (fc_N sz) (fun i hi => ⟨fg_Du KK.2.2 XX.2 hi, fb_ext (KK.2.1 i hi).2 (XX.1 i hi).2⟩)
    refine pk_eq w 0 (fun e => ⟨?_, rfl, rfl, S, Y, Fa, Or.inr ⟨rfl, KK⟩, T, F⟩) (fun e => ?_)
    · subst e
      rw [if_neg (by decide), fq_0]
    · refine fy_ni (a := 1) (b := 5) (by omega) (by omega) (by omega) (br_f (by decide) (fy_cl hz Y KK.1 (by omega) w5 ⟨?_, rfl, rfl, S, Y, Fa, Or.inr ⟨rfl, KK⟩, T, F⟩))
      rw [e1, e2]
  refine pk_eq w 3 (fun e => ?_) (fun e => ?_)
  · exact fx_cl hz w5 (fun s hs => (XX.1 s hs).1) (by rw [if_pos e]; rfl) fin
  · exact fx_cl hz w5 (fun s hs => (XX.1 s hs).1) (by rw [if_neg e]; rfl) fin
end FCT
