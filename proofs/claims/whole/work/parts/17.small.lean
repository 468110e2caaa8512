section FSM
variable {tl fc : Int32} {sz tk ln an fa sk lw hg mv en dp ca rc : Nat → Int32} {re : Nat → Int64} {ho ae ta ow ts fs : Nat → Int32} {kn te fl : Int32} {yk yl th ef : Nat → Int32} {go : Nat → Int64} {gu ye yd : Nat → Int32} {wa al yc : Nat → Int64} {tr fd ys : Nat → Int32}
theorem fn_iv (x : Int32) : x.toInt < 2 ^ 31 := Int32.toInt_lt x
theorem fn_32 (x : Int32) : 3 ≤ x ↔ 2 < x := by
  have h3 : (3 : Int32).toInt = 3 := by decide
  have h2 : (2 : Int32).toInt = 2 := by decide
  rw [Int32.le_iff_toInt_le, Int32.lt_iff_toInt_lt, h3, h2]; omega
theorem fn_43 (x : Int32) : 4 ≤ x ↔ 3 < x := by
  have h3 : (4 : Int32).toInt = 4 := by decide
  have h2 : (3 : Int32).toInt = 3 := by decide
  rw [Int32.le_iff_toInt_le, Int32.lt_iff_toInt_lt, h3, h2]; omega
theorem fn_nl {x y : Int32} : ¬ x ≤ y ↔ y < x := Int32.not_le
theorem i_vc_variable {k : Nat} {u : SX} {v : SY} (I : i_Rel k u v) (hk : k + 4 ≤ 2048) (v1 : Int32) (v2 : Int32) : wpX_variable (fun r u' => wpY_variable (fun r' v' => r' = r ∧ i_Rel (k + 4) u' v') v v1 v2) u v1 v2 := by
  obtain ⟨tl, fc, sz, tk, ln, an, fa, sk, lw, hg, mv, en, dp, ca, rc, re, ho, ae, ta, ow, ts, fs⟩ := u
  obtain ⟨kn, te, fl, yk, yl, vs, th, yf, ef, go, gu, ye, yd, wa, al, yc, tr, fd, ys⟩ := v
  obtain ⟨rfl, rfl, S, Y, Fa, K, T, F⟩ := I
  have y0 : (v1 < 0 ∨ 2 < v1 ∨ v2 < 1 ∨ 5 < v2) → ∀ {post : Int32 → SY → Prop}, post 0 (kn, te, fl, yk, yl, sz, th, fa, ef, go, gu, ye, yd, wa, al, yc, tr, fd, ys) → wpY_variable post (kn, te, fl, yk, yl, sz, th, fa, ef, go, gu, ye, yd, wa, al, yc, tr, fd, ys) v1 v2 := by
    intro h post hp
    unfold wpY_variable
    refine fy_in (fun a b => br_f (by decide) (fy_in (fun c d => ?_) (fun _ => br_t rfl hp))) (fun _ => br_t rfl hp)
    exact absurd h (by rintro (h | h | h | h) <;> contradiction)
  have R : i_Rel (k + 4) (tl, fc, sz, tk, ln, an, fa, sk, lw, hg, mv, en, dp, ca, rc, re, ho, ae, ta, ow, ts, fs) (kn, te, fl, yk, yl, sz, th, fa, ef, go, gu, ye, yd, wa, al, yc, tr, fd, ys) := ⟨rfl, rfl, S, Y, Fa, K, T, F⟩
  refine br_c (fun h => y0 (Or.inl h) ⟨rfl, R⟩) (fun a1 => br_c (fun h => y0 (Or.inr (Or.inl ((fn_32 _).mp h))) ⟨rfl, R⟩) (fun a2 => br_c (fun h => y0 (Or.inr (Or.inr (Or.inl h))) ⟨rfl, R⟩) (fun a3 => br_c (fun a4 => ?_) (fun h => y0 (Or.inr (Or.inr (Or.inr (fn_nl.mp h)))) ⟨rfl, R⟩))))
  obtain ⟨j, hj, rfl⟩ := nI_of (x := v1) a1
  have hj3 : j < 3 := by
    have := fn_nl.mp a2
    rw [show (3 : Int32) = nI 3 from rfl, nI_ltI hj (by omega)] at this; exact this
  obtain ⟨m, hm, rfl⟩ := nI_of (x := v2) (fun z => a3 (Int32.lt_trans z (by decide)))
  have hm1 : 1 ≤ m := by
    rw [show (1 : Int32) = nI 1 from rfl, nI_ltI hm (by omega)] at a3; omega
  have hm5 : m ≤ 5 := by
    rw [show (5 : Int32) = nI 5 from rfl, nI_leI hm (by omega)] at a4; exact a4
  rw [nI_clamp hj]
  refine ⟨vp_in_nI hj3 (by omega), nm_e ?_⟩
  unfold wpY_variable
  refine fy_in (fun _ _ => br_f (by decide) (fy_in (fun _ _ => br_f (by decide) ⟨vp_in_nI hj3 (by omega), ?_⟩) (fun z => absurd z ?_))) (fun z => absurd z ?_)
  · rw [nI_clamp hj]
    refine nm_e ⟨rfl, rfl, rfl, ⟨fun w hw => ?_, S.2⟩, Y, Fa, Or.inl rfl, T, F⟩
    unfold fc_z
    by_cases e : w = j
    · subst e
      rw [pk_us, nI_clamp hm]
      exact ⟨rfl, hm1, hm5⟩
    · rw [pk_un e]
      exact S.1 w hw
  · rintro (z | z)
    · exact a3 z
    · exact fn_nl.mpr z a4
  · rintro (z | z)
    · exact a1 z
    · exact a2 ((fn_32 _).mpr z)
end FSM
