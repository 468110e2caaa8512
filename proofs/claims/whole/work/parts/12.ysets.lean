section FYS
variable {kn te fl : Int32} {yk yl sz th fa ef : Nat → Int32} {go : Nat → Int64} {gu ye yd : Nat → Int32} {wa al yc : Nat → Int64} {tr fd ys : Nat → Int32}
theorem fl_i {b t : Nat} (ht : t < 2 ^ 31) : nI b + nI t / 64 = nI (b + t / 64) := by
  rw [← nI_add, show nI t / 64 = nI (t / 64) from pk_div (d := 64) ht (by omega) (by omega)]
theorem fl_r {t : Nat} (ht : t < 2 ^ 31) : nI t - nI t / 64 * 64 = nI (t % 64) := pk_rem (d := 64) ht (by omega) (by omega)
theorem fl_64 : ¬ (64 : Int32) = 0 := by decide
theorem fy_h_goes {post : Int32 → Prop} {b t : Nat} (hb : b + t / 64 < 1000) (ht : t < 128) (h1 : fl_h go b t = true → post 1) (h0 : fl_h go b t = false → post 0) : wpY_has__goes post (kn, te, fl, yk, yl, sz, th, fa, ef, go, gu, ye, yd, wa, al, yc, tr, fd, ys) (nI b) (nI t) := by
  unfold wpY_has__goes
  dsimp only
  rw [fl_i (by omega), fl_r (by omega), nI_clamp (by omega)]
  refine ⟨fl_64, vp_in_nI hb (by omega), fl_64, br_c (fun z => h1 ?_) (fun z => h0 ?_)⟩
  · exact (fl_sr _ (by omega)).mp z
  · cases q : fl_h go b t
    · rfl
    · exact absurd ((fl_sr _ (by omega)).mpr q) z
theorem fy_h_ways {post : Int32 → Prop} {b t : Nat} (hb : b + t / 64 < 250) (ht : t < 128) (h1 : fl_h wa b t = true → post 1) (h0 : fl_h wa b t = false → post 0) : wpY_has__ways post (kn, te, fl, yk, yl, sz, th, fa, ef, go, gu, ye, yd, wa, al, yc, tr, fd, ys) (nI b) (nI t) := by
  unfold wpY_has__ways
  dsimp only
  rw [fl_i (by omega), fl_r (by omega), nI_clamp (by omega)]
  refine ⟨fl_64, vp_in_nI hb (by omega), fl_64, br_c (fun z => h1 ?_) (fun z => h0 ?_)⟩
  · exact (fl_sr _ (by omega)).mp z
  · cases q : fl_h wa b t
    · rfl
    · exact absurd ((fl_sr _ (by omega)).mpr q) z
theorem fy_h_alive {post : Int32 → Prop} {b t : Nat} (hb : b + t / 64 < 2) (ht : t < 128) (h1 : fl_h al b t = true → post 1) (h0 : fl_h al b t = false → post 0) : wpY_has__alive post (kn, te, fl, yk, yl, sz, th, fa, ef, go, gu, ye, yd, wa, al, yc, tr, fd, ys) (nI b) (nI t) := by
  unfold wpY_has__alive
  dsimp only
  rw [fl_i (by omega), fl_r (by omega), nI_clamp (by omega)]
  refine ⟨fl_64, vp_in_nI hb (by omega), fl_64, br_c (fun z => h1 ?_) (fun z => h0 ?_)⟩
  · exact (fl_sr _ (by omega)).mp z
  · cases q : fl_h al b t
    · rfl
    · exact absurd ((fl_sr _ (by omega)).mpr q) z
theorem fy_h_calm {post : Int32 → Prop} {b t : Nat} (hb : b + t / 64 < 2) (ht : t < 128) (h1 : fl_h yc b t = true → post 1) (h0 : fl_h yc b t = false → post 0) : wpY_has__calm post (kn, te, fl, yk, yl, sz, th, fa, ef, go, gu, ye, yd, wa, al, yc, tr, fd, ys) (nI b) (nI t) := by
  unfold wpY_has__calm
  dsimp only
  rw [fl_i (by omega), fl_r (by omega), nI_clamp (by omega)]
  refine ⟨fl_64, vp_in_nI hb (by omega), fl_64, br_c (fun z => h1 ?_) (fun z => h0 ?_)⟩
  · exact (fl_sr _ (by omega)).mp z
  · cases q : fl_h yc b t
    · rfl
    · exact absurd ((fl_sr _ (by omega)).mpr q) z
theorem fy_p_goes {post : SY → Prop} {b t : Nat} (hb : b + t / 64 < 1000) (ht : t < 128) (h : post (kn, te, fl, yk, yl, sz, th, fa, ef, fl_put go b t, gu, ye, yd, wa, al, yc, tr, fd, ys)) : wpY_put__goes post (kn, te, fl, yk, yl, sz, th, fa, ef, go, gu, ye, yd, wa, al, yc, tr, fd, ys) (nI b) (nI t) := by
  unfold wpY_put__goes
  dsimp only
  rw [fl_i (by omega), fl_r (by omega), nI_clamp (by omega)]
  exact ⟨fl_64, vp_in_nI hb (by omega), fl_64, vp_in_nI hb (by omega), nm_e h⟩
theorem fy_p_ways {post : SY → Prop} {b t : Nat} (hb : b + t / 64 < 250) (ht : t < 128) (h : post (kn, te, fl, yk, yl, sz, th, fa, ef, go, gu, ye, yd, fl_put wa b t, al, yc, tr, fd, ys)) : wpY_put__ways post (kn, te, fl, yk, yl, sz, th, fa, ef, go, gu, ye, yd, wa, al, yc, tr, fd, ys) (nI b) (nI t) := by
  unfold wpY_put__ways
  dsimp only
  rw [fl_i (by omega), fl_r (by omega), nI_clamp (by omega)]
  exact ⟨fl_64, vp_in_nI hb (by omega), fl_64, vp_in_nI hb (by omega), nm_e h⟩
theorem fy_p_alive {post : SY → Prop} {b t : Nat} (hb : b + t / 64 < 2) (ht : t < 128) (h : post (kn, te, fl, yk, yl, sz, th, fa, ef, go, gu, ye, yd, wa, fl_put al b t, yc, tr, fd, ys)) : wpY_put__alive post (kn, te, fl, yk, yl, sz, th, fa, ef, go, gu, ye, yd, wa, al, yc, tr, fd, ys) (nI b) (nI t) := by
  unfold wpY_put__alive
  dsimp only
  rw [fl_i (by omega), fl_r (by omega), nI_clamp (by omega)]
  exact ⟨fl_64, vp_in_nI hb (by omega), fl_64, vp_in_nI hb (by omega), nm_e h⟩
theorem fy_p_calm {post : SY → Prop} {b t : Nat} (hb : b + t / 64 < 2) (ht : t < 128) (h : post (kn, te, fl, yk, yl, sz, th, fa, ef, go, gu, ye, yd, wa, al, fl_put yc b t, tr, fd, ys)) : wpY_put__calm post (kn, te, fl, yk, yl, sz, th, fa, ef, go, gu, ye, yd, wa, al, yc, tr, fd, ys) (nI b) (nI t) := by
  unfold wpY_put__calm
  dsimp only
  rw [fl_i (by omega), fl_r (by omega), nI_clamp (by omega)]
  exact ⟨fl_64, vp_in_nI hb (by omega), fl_64, vp_in_nI hb (by omega), nm_e h⟩
end FYS
