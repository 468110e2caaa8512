section FYF
variable {kn te fl : Int32} {yk yl sz th fa ef : Nat → Int32} {go : Nat → Int64} {gu ye yd : Nat → Int32} {wa al yc : Nat → Int64} {tr fd ys : Nat → Int32} {tk ln an : Nat → Int32} {C F : Nat → Prop}
/-! come: the calm states from which a step leads to one that is alive -/
theorem fy_co {post : SY → Prop} (hz : fc_Z sz) (Y : fy_S tk ln an yk yl th ef) (G : fy_G sz tk ln an go) (hCN : ∀ s, C s → s < fc_N sz) (hFC : ∀ s, F s → C s) (hC : ∀ s, s < fc_N sz → (fl_h yc 0 s = true ↔ C s)) (hF : ∀ s, s < fc_N sz → (fl_h al 0 s = true ↔ F s))
    (hp : ∀ al', (∀ s, s < fc_N sz → (fl_h al' 0 s = true ↔ fw_cm (fc_N sz) (fc_st sz tk ln an) C F s)) → post (kn, te, fl, yk, yl, sz, th, fa, ef, go, gu, ye, yd, wa, al', yc, tr, fd, ys)) : wpY_come post (kn, te, fl, yk, yl, sz, th, fa, ef, go, gu, ye, yd, wa, al, yc, tr, fd, ys) (nI (fc_N sz)) := by
  have hN := fc_N1 hz
  refine loop_m (fun n (p : Int32 × (Nat → Int64)) => wY_come_2 post (nI (fc_N sz)) n p.1 kn te fl yk yl sz th fa ef go gu ye yd wa p.2 yc tr fd ys)
    (fun p => (p.1 = 0 ∧ ∀ s, s < fc_N sz → (fl_h p.2 0 s = true ↔ fw_cm (fc_N sz) (fc_st sz tk ln an) C F s)) ∨ (p.1 = 1 ∧ (∀ s, F s → fl_h p.2 0 s = true) ∧ ∀ s, s < fc_N sz → fl_h p.2 0 s = true → fw_cm (fc_N sz) (fc_st sz tk ln an) C F s))
    (fun p => if p.1 = 0 then 0 else 1 + fc_N sz - fg_cn (fun s => fl_h p.2 0 s = true) (fc_N sz)) (fun n p J k => ?_) (1, al) (Or.inr ⟨rfl, fun s f => (hF s (hCN s (hFC s f))).mpr f, fun s hs q => fw_c0 hCN hFC ((hF s hs).mp q)⟩)
  obtain ⟨x, al⟩ := p
  rcases J with ⟨e, J⟩ | ⟨e, J1, J2⟩
  · have e : x = 0 := e
    subst e
    exact br_t rfl (hp al J)
  · have e : x = 1 := e
    subst e
    have J1 : ∀ s, F s → fl_h al 0 s = true := J1
    have J2 : ∀ s, s < fc_N sz → fl_h al 0 s = true → fw_cm (fc_N sz) (fc_st sz tk ln an) C F s := J2
    refine br_f (show ¬ (1 : Int32) = 0 by decide) ?_
    refine pk_loop (fun n' i (p : Int32 × (Nat → Int64)) => wY_come_10 post (wY_come_2 post (nI (fc_N sz)) n) (nI (fc_N sz)) n' p.1 (nI i) kn te fl yk yl sz th fa ef go gu ye yd wa p.2 yc tr fd ys)
      (fun i p => (∀ s, s < fc_N sz → fl_h al 0 s = true → fl_h p.2 0 s = true) ∧ (∀ s, s < fc_N sz → fl_h p.2 0 s = true → fw_cm (fc_N sz) (fc_st sz tk ln an) C F s) ∧ ((p.1 = 0 ∧ (∀ s, s < fc_N sz → fl_h p.2 0 s = fl_h al 0 s) ∧ ∀ s, s < i → C s → (∃ t, t < fc_N sz ∧ fl_h al 0 t = true ∧ fc_st sz tk ln an s t) → fl_h al 0 s = true) ∨ (p.1 = 1 ∧ ∃ s, s < fc_N sz ∧ fl_h p.2 0 s = true ∧ fl_h al 0 s = false))) (fc_N sz) 0 (0, al) (by omega) ⟨fun _ _ q => q, J2, Or.inl ⟨rfl, fun _ _ => rfl, fun s hs => absurd hs (by omega)⟩⟩ (fun n' p L => ?_) (fun n' i p hi L k2 => ?_)
    · obtain ⟨x, bl⟩ := p
      obtain ⟨L1, L2, L3⟩ := L
      have L1 : ∀ s, s < fc_N sz → fl_h al 0 s = true → fl_h bl 0 s = true := L1
      have L2 : ∀ s, s < fc_N sz → fl_h bl 0 s = true → fw_cm (fc_N sz) (fc_st sz tk ln an) C F s := L2
      refine pk_le (fc_N sz) (fc_N sz) (fun _ => ?_) (fun z => absurd z (by omega))
      have hc := fg_cn_le (fun s => fl_h al 0 s = true) (fc_N sz)
      rcases L3 with ⟨e, M1, M2⟩ | ⟨e, s, hs, M1, M2⟩
      · have e : x = 0 := e
        subst e
        have M1 : ∀ s, s < fc_N sz → fl_h bl 0 s = fl_h al 0 s := M1
        refine k (0, bl) (Or.inl ⟨rfl, fun s hs => ?_⟩) ?_
        · show fl_h bl 0 s = true ↔ _
          rw [M1 s hs]
          have := fw_ce (N := fc_N sz) (st := fc_st sz tk ln an) (C := C) (F := F) (B := fun s => s < fc_N sz ∧ fl_h al 0 s = true) hCN hFC (fun s f => ⟨hCN s (hFC s f), J1 s f⟩) (fun s q => J2 s q.1 q.2) (fun s hs c ⟨t, a, b⟩ => ⟨hs, M2 s hs c ⟨t, a.1, a.2, b⟩⟩) s
          exact ⟨fun q => this.mp ⟨hs, q⟩, fun q => (this.mpr q).2⟩
        · show 0 < 1 + fc_N sz - fg_cn (fun s => fl_h al 0 s = true) (fc_N sz)
          omega
      · have e : x = 1 := e
        subst e
        have M1 : fl_h bl 0 s = true := M1
        refine k (1, bl) (Or.inr ⟨rfl, fun s f => L1 s (hCN s (hFC s f)) (J1 s f), L2⟩) ?_
        show 1 + fc_N sz - fg_cn (fun s => fl_h bl 0 s = true) (fc_N sz) < 1 + fc_N sz - fg_cn (fun s => fl_h al 0 s = true) (fc_N sz)
        have := fg_cn_lt (P := fun s => fl_h al 0 s = true) (Q := fun s => fl_h bl 0 s = true) (fc_N sz) L1 ⟨s, hs, M1, fun w => by rw [M2] at w; cases w⟩
        omega
    · obtain ⟨x, bl⟩ := p
      obtain ⟨L1, L2, L3⟩ := L
      have L1 : ∀ s, s < fc_N sz → fl_h al 0 s = true → fl_h bl 0 s = true := L1
      have L2 : ∀ s, s < fc_N sz → fl_h bl 0 s = true → fw_cm (fc_N sz) (fc_st sz tk ln an) C F s := L2
      have L3 : (x = 0 ∧ (∀ s, s < fc_N sz → fl_h bl 0 s = fl_h al 0 s) ∧ ∀ s, s < i → C s → (∃ t, t < fc_N sz ∧ fl_h al 0 t = true ∧ fc_st sz tk ln an s t) → fl_h al 0 s = true) ∨ (x = 1 ∧ ∃ s, s < fc_N sz ∧ fl_h bl 0 s = true ∧ fl_h al 0 s = false) := L3
      refine pk_le (fc_N sz) i (fun z => absurd z (by omega)) (fun _ => ?_)
      have skip : (¬ C i ∨ fl_h bl 0 i = true ∨ ¬ ∃ t, t < fc_N sz ∧ fl_h bl 0 t = true ∧ fc_st sz tk ln an i t) → wY_come_10 post (wY_come_2 post (nI (fc_N sz)) n) (nI (fc_N sz)) n' x (nI (i + 1)) kn te fl yk yl sz th fa ef go gu ye yd wa bl yc tr fd ys := by
        intro q
        refine k2 (x, bl) ⟨L1, L2, L3.imp (fun ⟨e, M1, M2⟩ => ⟨e, M1, fun s hs c w => ?_⟩) id⟩
        by_cases e2 : s = i
        · subst e2
          rcases q with q | q | q
          · exact absurd c q
          · rw [← M1 s hi]; exact q
          · obtain ⟨t, a1, a2, a3⟩ := w
            exact absurd ⟨t, a1, by rw [M1 t a1]; exact a2, a3⟩ q
        · exact M2 s (by omega) c w
      refine fy_h_calm (b := 0) (by omega) (by omega) (fun a => br_f (by decide) (fy_h_alive (b := 0) (by omega) (by omega) (fun b => br_f (by decide) (nm_r (nI_1 i) (skip (Or.inr (Or.inl b))))) (fun b => br_t rfl ?_))) (fun a => br_t rfl (nm_r (nI_1 i) (skip (Or.inl (fun w => ?_)))))
      · have c := (hC i hi).mp a
        refine pk_loop (fun n'' t y => wY_come_50 post (wY_come_2 post (nI (fc_N sz)) n) (wY_come_10 post (wY_come_2 post (nI (fc_N sz)) n) (nI (fc_N sz)) n') (nI (fc_N sz)) x (nI i) kn te fl yk yl sz th fa ef go gu ye yd wa bl yc tr fd ys n'' y (nI t)) (fun t y => (y = 0 ∧ ∀ t', t' < t → ¬ (fl_h bl 0 t' = true ∧ fc_st sz tk ln an i t')) ∨ (y = 1 ∧ ∃ t', t' < t ∧ fl_h bl 0 t' = true ∧ fc_st sz tk ln an i t')) (fc_N sz) 0 0 (by omega) (Or.inl ⟨rfl, fun t' h => absurd h (by omega)⟩) (fun n'' y Q => ?_) (fun n'' t y ht Q k3 => ?_)
        · refine pk_le (fc_N sz) (fc_N sz) (fun _ => ?_) (fun z => absurd z (by omega))
          rcases Q with ⟨rfl, Q⟩ | ⟨rfl, t, ht, q1, q2⟩
          · refine br_t rfl (nm_r (e' := x) (by rcases L3 with ⟨rfl, _⟩ | ⟨rfl, _⟩ <;> decide) (nm_r (nI_1 i) (skip (Or.inr (Or.inr (fun ⟨t, a1, a2⟩ => Q t a1 a2))))))
          · refine br_f (by decide) (fy_p_alive (b := 0) (by omega) (by omega) (nm_r (e' := 1) (by rcases L3 with ⟨rfl, _⟩ | ⟨rfl, _⟩ <;> decide) (nm_r (nI_1 i) (k2 (1, fl_put bl 0 i) ⟨fun s hs q => ?_, fun s hs q => ?_, Or.inr ⟨rfl, i, hi, ?_, ?_⟩⟩))))
            · show fl_h (fl_put bl 0 i) 0 s = true
              rw [fl_hs bl (by omega) (by omega) (by omega) (by omega), L1 s hs q]; rfl
            · have q : fl_h (fl_put bl 0 i) 0 s = true := q
              rw [fl_hs bl (by omega) (by omega) (by omega) (by omega), Bool.or_eq_true, decide_eq_true_iff] at q
              rcases q with q | ⟨_, q⟩
              · exact L2 s hs q
              · subst q
                exact fw_c1 hi ht c q2 (L2 t ht q1)
            · show fl_h (fl_put bl 0 i) 0 i = true
              rw [fl_hs bl (by omega) (by omega) (by omega) (by omega), decide_eq_true ⟨rfl, rfl⟩, Bool.or_true]
            · cases w : fl_h al 0 i
              · rfl
              · rw [L1 i hi w] at b; cases b
        · refine pk_le (fc_N sz) t (fun z => absurd z (by omega)) (fun _ => ?_)
          have no : ¬ (fl_h bl 0 t = true ∧ fc_st sz tk ln an i t) → wY_come_50 post (wY_come_2 post (nI (fc_N sz)) n) (wY_come_10 post (wY_come_2 post (nI (fc_N sz)) n) (nI (fc_N sz)) n') (nI (fc_N sz)) x (nI i) kn te fl yk yl sz th fa ef go gu ye yd wa bl yc tr fd ys n'' (y ||| 0) (nI (t + 1)) := by
            intro h
            refine k3 _ ?_
            rcases Q with ⟨rfl, Q⟩ | ⟨rfl, t', ht', Q⟩
            · refine Or.inl ⟨by decide, fun t' ht' => ?_⟩
              by_cases q : t' = t
              · rw [q]; exact h
              · exact Q t' (by omega)
            · exact Or.inr ⟨by decide, t', by omega, Q⟩
          refine fy_h_alive (b := 0) (by omega) (by omega) (fun q => br_f (by decide) (fy_sp hz Y G hi ht (fun w => br_f (by decide) (nm_e (nm_r (nI_1 t) (k3 _ (Or.inr ⟨by rcases Q with ⟨rfl, _⟩ | ⟨rfl, _⟩ <;> decide, t, by omega, q, w⟩))))) (fun w => br_t rfl (nm_e (nm_r (nI_1 t) (no (fun z => w z.2))))))) (fun q => br_t rfl (nm_e (nm_r (nI_1 t) (no (fun z => ?_)))))
          rw [q] at z; exact absurd z.1 (by decide)
      · rw [(hC i hi).mpr w] at a; cases a
/-! a round -/
theorem fy_ro {post : Int32 → SY → Prop} {J : Int32 → Int32 → Int32 → Int32 → (Nat → Int32) → (Nat → Int32) → (Nat → Int32) → (Nat → Int32) → (Nat → Int32) → (Nat → Int32) → (Nat → Int64) → (Nat → Int32) → (Nat → Int32) → (Nat → Int32) → (Nat → Int64) → (Nat → Int64) → (Nat → Int64) → (Nat → Int32) → (Nat → Int32) → (Nat → Int32) → Prop} {A : Nat → Prop} (hz : fc_Z sz) (Y : fy_S tk ln an yk yl th ef) (G : fy_G sz tk ln an go) (Fa : fr_f fa) (hE : ∀ s, s < fc_N sz → fb_4 (ye s) (fun a => fc_en sz tk ln an a s)) (hA : ∀ s, s < fc_N sz → (fl_h al 0 s = true ↔ A s))
    (hR : ∀ s t, s < fc_N sz → t < fc_N sz → (fl_h wa (2 * s) t = true ↔ fw_W (fc_N sz) (fc_st sz tk ln an) A (fc_N sz) s t))
    (hp : ∀ al' r, (∀ s, s < fc_N sz → (fl_h al' 0 s = true ↔ fw_nx (fc_N sz) (fc_st sz tk ln an) (fc_M sz tk ln an) (fc_en sz tk ln an) (ff_t ln fa) A s)) → ((r = 0 ∧ ∀ s, s < fc_N sz → A s → ¬ fw_un (fc_N sz) (fc_st sz tk ln an) (fc_M sz tk ln an) (fc_en sz tk ln an) (ff_t ln fa) A s) ∨ (r = 1 ∧ ∃ s, s < fc_N sz ∧ A s ∧ fw_un (fc_N sz) (fc_st sz tk ln an) (fc_M sz tk ln an) (fc_en sz tk ln an) (ff_t ln fa) A s)) → J r kn te fl yk yl sz th fa ef go gu ye yd wa al' yc tr fd ys) : ∃ n, wY_fails_108 post J (nI (fc_N sz)) kn te fl n 0 0 yk yl sz th fa ef go gu ye yd wa al yc tr fd ys := by
  have hN := fc_N1 hz
  generalize hU : fw_un (fc_N sz) (fc_st sz tk ln an) (fc_M sz tk ln an) (fc_en sz tk ln an) (ff_t ln fa) A = U at hp
  refine pk_loop (fun n i (p : Int32 × (Nat → Int64)) => wY_fails_108 post J (nI (fc_N sz)) kn te fl n p.1 (nI i) yk yl sz th fa ef go gu ye yd wa p.2 yc tr fd ys) (fun i p => (∀ s, s < 128 → s < fc_N sz → (fl_h p.2 0 s = true ↔ (A s ∧ ¬ (s < i ∧ U s)))) ∧ ((p.1 = 0 ∧ ∀ s, s < i → A s → ¬ U s) ∨ (p.1 = 1 ∧ ∃ s, s < i ∧ A s ∧ U s))) (fc_N sz) 0 (0, al) (by omega) ⟨fun s _ hs => ?_, Or.inl ⟨rfl, fun s hs => absurd hs (by omega)⟩⟩ (fun n p I => ?_) (fun n i p hi I k => ?_)
  · exact (hA s hs).trans ⟨fun q => ⟨q, fun w => absurd w.1 (by omega)⟩, fun q => q.1⟩
  · obtain ⟨x, al⟩ := p
    obtain ⟨I1, I2⟩ := I
    refine pk_le (fc_N sz) (fc_N sz) (fun _ => hp al x (fun s hs => ?_) I2) (fun z => absurd z (by omega))
    unfold fw_nx
    rw [hU]
    exact (I1 s (by omega) hs).trans ⟨fun q => ⟨q.1, fun w => q.2 ⟨hs, w⟩⟩, fun q => ⟨q.1, fun w => q.2 w.2⟩⟩
  · obtain ⟨x, al⟩ := p
    obtain ⟨I1, I2⟩ := I
    have I1 : ∀ s, s < 128 → s < fc_N sz → (fl_h al 0 s = true ↔ (A s ∧ ¬ (s < i ∧ U s))) := I1
    have I2 : (x = 0 ∧ ∀ s, s < i → A s → ¬ U s) ∨ (x = 1 ∧ ∃ s, s < i ∧ A s ∧ U s) := I2
    refine pk_le (fc_N sz) i (fun z => absurd z (by omega)) (fun _ => ?_)
    have stay : ¬ (A i ∧ U i) → wY_fails_108 post J (nI (fc_N sz)) kn te fl n x (nI (i + 1)) yk yl sz th fa ef go gu ye yd wa al yc tr fd ys := by
      intro q
      refine k (x, al) ⟨fun s h128 hs => ?_, ?_⟩
      · refine (I1 s h128 hs).trans ⟨fun w => ⟨w.1, fun z => ?_⟩, fun w => ⟨w.1, fun z => w.2 ⟨by omega, z.2⟩⟩⟩
        by_cases e : s = i
        · subst e; exact q ⟨w.1, z.2⟩
        · exact w.2 ⟨by omega, z.2⟩
      · rcases I2 with ⟨e, w⟩ | ⟨e, s, hs, w⟩
        · refine Or.inl ⟨e, fun s hs a u => ?_⟩
          by_cases ee : s = i
          · subst ee; exact q ⟨a, u⟩
          · exact w s (by omega) a u
        · exact Or.inr ⟨e, s, by omega, w⟩
    refine fy_h_alive (b := 0) (by omega) (by omega) (fun a => br_f (by decide) ?_) (fun a => br_t rfl (nm_r (nI_1 i) (stay (fun w => ?_))))
    · have ai := ((I1 i (by omega) hi).mp a).1
      refine fy_uf hz Y G Fa hE hR hi (fun u => br_f (by decide) ?_) (fun u => br_t rfl (nm_r (nI_1 i) (stay (fun w => u (by rw [hU]; exact w.2)))))
      rw [hU] at u
      have e64 : nI i / 64 = nI (i / 64) := pk_div (d := 64) (by omega) (by omega) (by omega)
      rw [fl_r (by omega), e64, nI_clamp (by omega)]
      refine ⟨fl_64, vp_in_nI (by omega) (by omega), fl_64, vp_in_nI (by omega) (by omega), nm_e (nm_r (nI_1 i) (k (1, fl_del al i) ⟨fun s h128 hs => ?_, Or.inr ⟨rfl, i, by omega, ai, u⟩⟩))⟩
      show fl_h (fl_del al i) 0 s = true ↔ _
      rw [fl_hc al (by omega) h128, Bool.and_eq_true, I1 s h128 hs, Bool.not_eq_true', decide_eq_false_iff_not]
      constructor
      · rintro ⟨⟨w1, w2⟩, w3⟩
        exact ⟨w1, fun z => w2 ⟨by omega, z.2⟩⟩
      · rintro ⟨w1, w2⟩
        exact ⟨⟨w1, fun z => w2 ⟨by omega, z.2⟩⟩, fun e => w2 ⟨by omega, by rw [e]; exact u⟩⟩
    · rw [(I1 i (by omega) hi).mpr ⟨w.1, fun z => absurd z.1 (by omega)⟩] at a; cases a
theorem fl_cp (a b : Nat → Int64) {t : Nat} (ht : t < 128) : fl_h (vp_updL (vp_updL a 0 (b 0)) 1 (b 1)) 0 t = fl_h b 0 t := by
  unfold fl_h
  rw [Nat.zero_add]
  rcases (show t / 64 = 0 ∨ t / 64 = 1 by omega) with e | e
  · rw [e, pk_uLn (by omega), pk_uLs]
  · rw [e, pk_uLs]
theorem fy_fa {post : Int32 → SY → Prop} (S : fx_S sz tk ln) (Y : fy_S tk ln an yk yl th ef) (K : fy_K sz tk ln an go gu ye yd) (Fa : fr_f fa) (ok : fc_ok tk ln 0) (hyc : ∀ t, t < 128 → fl_h yc 0 t = false)
    (hp : ∀ ys' yc' al' wa' fd', fq_f (ff_Q sz tk ln an fa) (fc_N sz) fd' → post (nI (fg_cn (ff_Q sz tk ln an fa) (fc_N sz))) (kn, te, nI (fg_cn (ff_Q sz tk ln an fa) (fc_N sz)), yk, yl, sz, th, fa, ef, go, gu, ye, yd, wa', al', yc', tr, fd', ys')) : ∃ n, wY_fails_30 post (nI (fc_N sz)) n 0 kn te fl yk yl sz th fa ef go gu ye yd wa al yc tr fd ys := by
  have hz := S.1
  have hN := fc_N1 hz
  have sm0 := Y.1 0 (by omega)
  have oky : fc_ok yk yl 0 := fc_sm_ok sm0 ok
  refine pk_loop (fun n i (p : (Nat → Int32) × (Nat → Int64)) => wY_fails_30 post (nI (fc_N sz)) n (nI i) kn te fl yk yl sz th fa ef go gu ye yd wa al p.2 tr fd p.1) (fun i p => ∀ s, s < 128 → (fl_h p.2 0 s = true ↔ (s < i ∧ ff_C sz tk ln an s))) (fc_N sz) 0 (ys, yc) (by omega) (fun s hs => ?_) (fun n p I => ?_) (fun n i p hi I k => ?_)
  · show fl_h yc 0 s = true ↔ _
    rw [hyc s hs]
    exact ⟨fun z => absurd z (by decide), fun z => absurd z.1 (by omega)⟩
  · obtain ⟨ys, yc⟩ := p
    have I : ∀ s, s < 128 → (fl_h yc 0 s = true ↔ (s < fc_N sz ∧ ff_C sz tk ln an s)) := I
    have hC : ∀ s, s < fc_N sz → (fl_h yc 0 s = true ↔ ff_C sz tk ln an s) := fun s hs => (I s (by omega)).trans ⟨fun q => q.2, fun q => ⟨hs, q⟩⟩
    refine pk_le (fc_N sz) (fc_N sz) (fun _ => nm_e (nm_e ?_)) (fun z => absurd z (by omega))
    refine loop_m (fun n (p : Int32 × Nat × (Nat → Int64) × (Nat → Int64)) => wY_fails_95 post (nI (fc_N sz)) n p.1 kn te fl yk yl sz th fa ef go gu ye yd p.2.2.2 p.2.2.1 yc tr fd ys)
      (fun p => (p.1 = 0 ∧ ∀ s, s < fc_N sz → (fl_h p.2.2.1 0 s = true ↔ ff_F sz tk ln an fa s)) ∨ (p.1 = 1 ∧ (∀ s, s < fc_N sz → (fl_h p.2.2.1 0 s = true ↔ ff_it sz tk ln an fa p.2.1 s)) ∧ fg_cn (ff_it sz tk ln an fa p.2.1) (fc_N sz) + p.2.1 ≤ fc_N sz))
      (fun p => if p.1 = 0 then 0 else fc_N sz + 2 - p.2.1) (fun n p J k => ?_) (1, 0, _, wa) (Or.inr ⟨rfl, fun s hs => ?_, fg_cn_le _ _⟩)
    · obtain ⟨x, j, al, wa⟩ := p
      rcases J with ⟨e, J⟩ | ⟨e, J1, J2⟩
      · have e : x = 0 := e
        subst e
        have J : ∀ s, s < fc_N sz → (fl_h al 0 s = true ↔ ff_F sz tk ln an fa s) := J
        refine br_t rfl (fy_co (C := ff_C sz tk ln an) (F := ff_F sz tk ln an fa) hz Y K.1 (fun s q => q.1) (fun s q => fw_its _ s q) hC J (fun al' hal => ?_))
        refine pk_loop (fun n i (p : Int32 × (Nat → Int32) × (Nat → Int32)) => wY_fails_183 post (nI (fc_N sz)) n (nI i) kn te p.1 yk yl sz th fa ef go gu ye yd wa al' yc tr p.2.2 p.2.1) (fun i p => p.1 = nI (fg_cn (ff_Q sz tk ln an fa) i) ∧ fq_f (ff_Q sz tk ln an fa) i p.2.2) (fc_N sz) 0 (0, ys, fd) (by omega) ⟨rfl, fun s hs => absurd hs (by omega)⟩ (fun n p L => ?_) (fun n i p hi L k2 => ?_)
        · obtain ⟨x, ys, fd⟩ := p
          obtain ⟨L1, L2⟩ := L
          have L1 : x = _ := L1
          subst L1
          exact pk_le (fc_N sz) (fc_N sz) (fun _ => hp ys yc al' wa fd L2) (fun z => absurd z (by omega))
        · obtain ⟨x, ys, fd⟩ := p
          obtain ⟨L1, L2⟩ := L
          have L1 : x = _ := L1
          subst L1
          have L2 : fq_f (ff_Q sz tk ln an fa) i fd := L2
          have hcn := fg_cn_le (ff_Q sz tk ln an fa) i
          refine pk_le (fc_N sz) i (fun z => absurd z (by omega)) (fun _ => ?_)
          obtain ⟨h1, h2, h3⟩ := S.2.2 2 (by omega) (by omega)
          have sm2 := Y.1 2 (by omega)
          have sl := fs_L sm2
          have etr : fc_tr sz yk yl 2 i = fc_tr sz tk ln 2 i := by unfold fc_tr; rw [sl, fc_sm_w sm2]
          have skip : ∀ ys', ¬ ff_Q sz tk ln an fa i → wY_fails_183 post (nI (fc_N sz)) n (nI (i + 1)) kn te (nI (fg_cn (ff_Q sz tk ln an fa) i)) yk yl sz th fa ef go gu ye yd wa al' yc tr fd ys' := by
            intro ys' q
            refine k2 (_, ys', fd) ⟨?_, fq_ff L2 q⟩
            rw [fg_cn_f q]; rfl
          refine fy_h_alive (b := 0) (by omega) (by omega) (fun a => br_f (by decide) ?_) (fun a => br_t rfl (nm_r (nI_1 i) (skip ys (fun w => ?_))))
          · refine fy_is hz (j := 2) (by omega) hi (by rw [sl]; exact h3.imp id (fc_sm_ok sm2)) (by rw [sl, sm2.1]; exact h1) (by omega) (fun ys' => ?_)
            rw [etr]
            by_cases e : fc_tr sz tk ln 2 i = true
            · rw [if_pos e]
              have p : ff_Q sz tk ln an fa i := ⟨(hal i hi).mp a, e⟩
              refine br_f (by decide) ?_
              rw [nI_clamp (by omega), nI_1]
              refine ⟨vp_in_nI (by omega) (by omega), nm_e (nm_e (nm_r (nI_1 i) (k2 (_, ys', _) ⟨?_, fq_ft L2 p⟩)))⟩
              rw [fg_cn_t p]; rfl
            · rw [if_neg e]
              exact br_t rfl (nm_r (nI_1 i) (skip ys' (fun w => e w.2)))
          · rw [(hal i hi).mpr w.1] at a; cases a
      · have e : x = 1 := e
        subst e
        have J1 : ∀ s, s < fc_N sz → (fl_h al 0 s = true ↔ ff_it sz tk ln an fa j s) := J1
        have J2 : fg_cn (ff_it sz tk ln an fa j) (fc_N sz) + j ≤ fc_N sz := J2
        refine br_f (show ¬ (1 : Int32) = 0 by decide) (fy_c2 hz Y K.1 J1 (fun wa' hR => ?_))
        refine fy_ro hz Y K.1 Fa (fun s hs => (K.2.1 s hs).2) J1 hR (fun al' r hr hq => ?_)
        rcases hq with ⟨rfl, hq⟩ | ⟨rfl, hq⟩
        · refine k (0, j + 1, al', wa') (Or.inl ⟨rfl, ?_⟩) ?_
          · have := ff_no J2 hq
            show ∀ s, s < fc_N sz → (fl_h al' 0 s = true ↔ ff_F sz tk ln an fa s)
            rw [← this]; exact hr
          · show 0 < fc_N sz + 2 - j
            omega
        · refine k (1, j + 1, al', wa') (Or.inr ⟨rfl, hr, ff_ro J2 hq⟩) ?_
          show fc_N sz + 2 - (j + 1) < fc_N sz + 2 - j
          omega
    · show fl_h (vp_updL (vp_updL al 0 (yc 0)) 1 (yc 1)) 0 s = true ↔ _
      rw [fl_cp al yc (by omega)]; exact hC s hs
  · obtain ⟨ys, yc⟩ := p
    have I : ∀ s, s < 128 → (fl_h yc 0 s = true ↔ (s < i ∧ ff_C sz tk ln an s)) := I
    refine pk_le (fc_N sz) i (fun z => absurd z (by omega)) (fun _ => ?_)
    rw [nI_clamp (n := i) (by omega)]
    have hr := ff_r (by omega) K.2.2 hi
    have skip : ∀ ys', ¬ ff_C sz tk ln an i → wY_fails_30 post (nI (fc_N sz)) n (nI (i + 1)) kn te fl yk yl sz th fa ef go gu ye yd wa al yc tr fd ys' := by
      intro ys' q
      refine k (ys', yc) (fun s hs => (I s hs).trans ⟨fun w => ⟨by omega, w.2⟩, fun w => ⟨?_, w.2⟩⟩)
      by_cases e : s = i
      · subst e; exact absurd w.2 q
      · omega
    refine ⟨vp_in_nI (by omega) (by omega), br_c (fun d => nm_r (nI_1 i) (skip ys (fun w => hr.mpr w.2.1 d))) (fun d => ?_)⟩
    refine fy_wk (j := 0) hz (by omega) hi oky (fun ys' => ?_)
    rw [fc_sm_w sm0]
    refine br_c (fun b => fy_p_calm (b := 0) (by omega) (by omega) (nm_r (nI_1 i) (k (ys', fl_put yc 0 i) (fun s hs => ?_)))) (fun b => nm_r (nI_1 i) (skip ys' (fun w => b w.2.2)))
    show fl_h (fl_put yc 0 i) 0 s = true ↔ _
    rw [fl_hs yc (by omega) (by omega) (by omega) hs, Bool.or_eq_true, decide_eq_true_iff, I s hs]
    constructor
    · rintro (w | ⟨_, rfl⟩)
      · exact ⟨by omega, w.2⟩
      · exact ⟨by omega, hi, hr.mp d, b⟩
    · intro w
      by_cases e : s = i
      · exact Or.inr ⟨rfl, e⟩
      · exact Or.inl ⟨by omega, w.2⟩
end FYF
section FVF
theorem i_vc_fails {k : Nat} {u : SX} {v : SY} (I : i_Rel k u v) (hk : k + 4 ≤ 2048) : wpX_fails (fun r u' => wpY_fails (fun r' v' => r' = r ∧ i_Rel (k + 4) u' v') v) u := by
  obtain ⟨tl, fc, sz, tk, ln, an, fa, sk, lw, hg, mv, en, dp, ca, rc, re, ho, ae, ta, ow, ts, fs⟩ := u
  obtain ⟨kn, te, fl, yk, yl, vs, th, yf, ef, go, gu, ye, yd, wa, al, yc, tr, fd, ys⟩ := v
  have I : i_Rel (k + 4) (tl, fc, sz, tk, ln, an, fa, sk, lw, hg, mv, en, dp, ca, rc, re, ho, ae, ta, ow, ts, fs) (kn, te, fl, yk, yl, vs, th, yf, ef, go, gu, ye, yd, wa, al, yc, tr, fd, ys) := I
  obtain ⟨rfl, rfl, S, Y, Fa, K, T, F⟩ := id I
  have hz := S.1
  have hN := fc_N1 hz
  have sm0 := Y.1 0 (by omega)
  have hy := fc_sm_sh sm0 S.2.1
  unfold wpX_fails
  refine fx_di S.2.1 (fun hf => br_f (by decide) ?_) (fun hf => br_t rfl ?_)
  · have ok : fc_ok tk ln 0 := ⟨S.2.1, hf⟩
    refine fx_ex S (fun sk' lw' hg' mv' en' dp' XX => fx_ns hz (fx_fa S XX Fa ok (fun sk2 ca2 rc2 re2 ho2 ae2 ta2 fs2 hq => ?_)))
    unfold wpY_fails
    refine fy_ie hy (fun _ => br_f (by decide) (fy_kn S Y K (fun go' gu' ye' yd' ys' KK => fy_ns hz (fy_cc (fun yc' hyc => fy_fa S Y KK Fa ok hyc (fun ys2 yc2 al2 wa2 fd2 hq2 => ?_)))))) (fun q => absurd ((fs_exq sm0).mpr hf) q)
    refine ⟨rfl, rfl, rfl, S, Y, Fa, Or.inr ⟨rfl, KK⟩, T, fg_cn (ff_Q sz tk ln an fa) (fc_N sz), ?_, rfl, rfl, fq_fe hq hq2⟩
    have := fg_cn_le (ff_Q sz tk ln an fa) (fc_N sz)
    omega
  · unfold wpY_fails
    exact fy_ie hy (fun q => absurd ((fs_exq sm0).mp q) hf) (fun _ => br_t rfl ⟨rfl, I⟩)
end FVF
