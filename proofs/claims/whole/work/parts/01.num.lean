section FNUM
theorem pk_us {f : Nat → Int32} {k : Nat} {x : Int32} : upd f k x k = x := if_pos rfl
theorem pk_un {f : Nat → Int32} {k j : Nat} {x : Int32} (h : j ≠ k) : upd f k x j = f j := if_neg h
theorem pk_uLs {f : Nat → Int64} {k : Nat} {x : Int64} : vp_updL f k x k = x := if_pos rfl
theorem pk_uLn {f : Nat → Int64} {k j : Nat} {x : Int64} (h : j ≠ k) : vp_updL f k x j = f j := if_neg h
theorem pk_sub {a b : Nat} (h : b ≤ a) : nI a - nI b = nI (a - b) := by
  obtain ⟨c, rfl⟩ : ∃ c, a = c + b := ⟨a - b, by omega⟩
  rw [← nI_add, Int32.add_sub_cancel, Nat.add_sub_cancel]
theorem pk_m1 (n : Nat) : nI (n + 1) + (-1) = nI n := by
  rw [← nI_1, Int32.add_assoc, show (1 : Int32) + (-1) = 0 from rfl, Int32.add_zero]
theorem pk_mul (a b : Nat) : nI a * nI b = nI (a * b) := (Int32.ofNat_mul a b).symm
theorem pk_div {a d : Nat} (ha : a < 2 ^ 31) (h0 : 0 < d) (hd : d < 2 ^ 31) : nI a / nI d = nI (a / d) := by
  apply Int32.toInt_inj.mp
  rw [lg_idiv_nonneg (by rw [nI_toInt ha]; omega) (by rw [nI_toInt hd]; omega), nI_toInt ha, nI_toInt hd, nI_toInt (Nat.lt_of_le_of_lt (Nat.div_le_self a d) ha)]
  first | rfl | exact (Int.natCast_ediv _ _).symm
theorem pk_rem {a d : Nat} (ha : a < 2 ^ 31) (h0 : 0 < d) (hd : d < 2 ^ 31) : nI a - nI a / nI d * nI d = nI (a % d) := by
  rw [pk_div ha h0 hd, pk_mul, pk_sub (Nat.div_mul_le_self a d)]
  exact congrArg nI (by have := Nat.div_add_mod' a d; omega)
theorem pk_sub_toInt {a b : Nat} (ha : a < 2 ^ 30) (hb : b < 2 ^ 30) : (nI a - nI b).toInt = (a : Int) - b := by
  rw [Int32.toInt_sub, nI_toInt (by omega), nI_toInt (by omega)]
  exact Int.bmod_eq_of_le (by omega) (by omega)
theorem pk_sneg {a b : Nat} (hb : b < 2 ^ 30) (h : a < b) : nI a - nI b < 0 := by
  rw [Int32.lt_iff_toInt_lt, pk_sub_toInt (by omega) hb, show (0 : Int32).toInt = 0 from by decide]
  omega
theorem pk_ix (x : Int32) {n : Nat} (hn : n < 2 ^ 31) : x < 0 ∨ nI n ≤ x ∨ ∃ j : Nat, j < n ∧ x = nI j := by
  by_cases h : x < 0
  · exact Or.inl h
  · obtain ⟨j, hj, rfl⟩ := nI_of h
    by_cases h2 : j < n
    · exact Or.inr (Or.inr ⟨j, h2, rfl⟩)
    · exact Or.inr (Or.inl (nI_le (by omega) hj))
theorem pk_le {x y : Int32} {A B : Prop} (a b : Nat) (f : a ≤ b → A) (g : b < a → B) (hx : x = nI a := by rfl) (hy : y = nI b := by rfl) (ha : a < 2 ^ 31 := by omega) (hb : b < 2 ^ 31 := by omega) : (x ≤ y → A) ∧ (¬ x ≤ y → B) := by
  subst hx hy
  rw [nI_leI ha hb]
  exact ⟨f, fun z => g (by omega)⟩
theorem pk_lt {x y : Int32} {A B : Prop} (a b : Nat) (f : a < b → A) (g : b ≤ a → B) (hx : x = nI a := by rfl) (hy : y = nI b := by rfl) (ha : a < 2 ^ 31 := by omega) (hb : b < 2 ^ 31 := by omega) : (x < y → A) ∧ (¬ x < y → B) := by
  subst hx hy
  rw [nI_ltI ha hb]
  exact ⟨f, fun z => g (by omega)⟩
theorem pk_eq {x y : Int32} {A B : Prop} (a b : Nat) (f : a = b → A) (g : a ≠ b → B) (hx : x = nI a := by rfl) (hy : y = nI b := by rfl) (ha : a < 2 ^ 31 := by omega) (hb : b < 2 ^ 31 := by omega) : (x = y → A) ∧ (¬ x = y → B) := by
  subst hx hy
  rw [nI_eq ha hb]
  exact ⟨f, g⟩
theorem pk_in {x : Int32} (n N : Nat) (h : n < N) (hx : x = nI n := by rfl) (hN : N < 2 ^ 31 := by omega) : vp_in x N := by
  subst hx
  exact vp_in_nI h hN
theorem pk_cl {x : Int32} (n : Nat) (hx : x = nI n := by rfl) (h : n < 2 ^ 31 := by omega) : x.toNatClampNeg = n := by
  subst hx
  exact nI_clamp h
theorem pk_loop {σ : Type} (W : Nat → Nat → σ → Prop) (I : Nat → σ → Prop) (e i0 : Nat) (s : σ) (hi : i0 ≤ e) (h0 : I i0 s) (hx : ∀ n s, I e s → W (n + 1) e s)
    (hs : ∀ n i s, i < e → I i s → (∀ s', I (i + 1) s' → W n (i + 1) s') → W (n + 1) i s) : ∃ n, W n i0 s :=
  ⟨e + 1, loop_i W I e hx hs (e + 1) i0 s hi (by omega) h0⟩
theorem pk_loopD {σ : Type} (W : Nat → Nat → σ → Prop) (I : Nat → σ → Prop) (hx : ∀ n s, I 0 s → W (n + 1) 0 s)
    (hs : ∀ n i s, I (i + 1) s → (∀ s', I i s' → W n i s') → W (n + 1) (i + 1) s) : ∀ (e : Nat) (s : σ), I e s → W (e + 1) e s := by
  intro e
  induction e with
  | zero => exact fun s h => hx 0 s h
  | succ e ih => exact fun s h => hs (e + 1) e s h (fun s' h' => ih s' h')
theorem pk_least (P : Nat → Prop) (h : ∃ k, P k) : ∃ k, P k ∧ ∀ j, j < k → ¬ P j := by
  obtain ⟨k, hk⟩ := h
  induction k using Nat.strongRecOn with
  | ind k ih =>
    by_cases e : ∃ j, j < k ∧ P j
    · obtain ⟨j, hj, pj⟩ := e
      exact ih j hj pj
    · exact ⟨k, hk, fun j hj pj => e ⟨j, hj, pj⟩⟩
def bt (x : Int32) (i : Nat) : Bool := x.toBitVec.getLsbD i
theorem b_ext {x y : Int32} (h : ∀ i, i < 32 → bt x i = bt y i) : x = y := Int32.toBitVec_inj.mp (BitVec.eq_of_getLsbD_eq (fun i hi => h i hi))
theorem b_or (x y : Int32) (i : Nat) : bt (x ||| y) i = (bt x i || bt y i) := by unfold bt; rw [Int32.toBitVec_or, BitVec.getLsbD_or]
theorem b_and (x y : Int32) (i : Nat) : bt (x &&& y) i = (bt x i && bt y i) := by unfold bt; rw [Int32.toBitVec_and, BitVec.getLsbD_and]
theorem b_xor (x y : Int32) (i : Nat) : bt (x ^^^ y) i = (bt x i ^^ bt y i) := by unfold bt; rw [Int32.toBitVec_xor, BitVec.getLsbD_xor]
theorem b_big {x : Int32} {i : Nat} (h : 32 ≤ i) : bt x i = false := BitVec.getLsbD_of_ge _ _ h
theorem b_m1 : ∀ i, i < 32 → bt (-1) i = true := by decide +kernel
theorem b_0 (i : Nat) : bt 0 i = false := BitVec.getLsbD_zero
theorem s_l : ∀ n, n < 32 → ((nI n &&& 31).toBitVec.smod 32).toNat = n := by decide +kernel
theorem b_shl (n : Nat) (hn : n < 32) (x : Int32) {i : Nat} (hi : i < 32) : bt (x <<< (nI n &&& 31)) i = (decide (n ≤ i) && bt x (i - n)) := by
  unfold bt
  rw [Int32.toBitVec_shiftLeft]
  show (x.toBitVec <<< ((nI n &&& 31).toBitVec.smod 32).toNat).getLsbD i = _
  rw [s_l n hn, BitVec.getLsbD_shiftLeft]
  rcases Nat.lt_or_ge i n with h | h
  · simp [h, Nat.not_le.mpr h]
  · simp [hi, h, Nat.not_lt.mpr h]
theorem b_sshr (n : Nat) (hn : n < 32) (x : Int32) {i : Nat} (hi : i < 32) : bt (x >>> (nI n &&& 31)) i = if n + i < 32 then bt x (n + i) else bt x 31 := by
  unfold bt
  rw [Int32.toBitVec_shiftRight]
  show (x.toBitVec.sshiftRight ((nI n &&& 31).toBitVec.smod 32).toNat).getLsbD i = _
  rw [s_l n hn, BitVec.getLsbD_sshiftRight, BitVec.msb_eq_getLsbD_last]
  simp [hi]
theorem wb_tb (n : Nat) : (lN n).toBitVec = BitVec.ofNat 64 n := rfl
theorem wb_inj {a b : Int64} (h : a.toBitVec = b.toBitVec) : a = b := Int64.toBitVec_inj.mp h
theorem wb_c : ∀ k, k < 64 → ((nI k).toInt64 &&& 63) = lN k := by decide +kernel
theorem wb_cu : ∀ k, k < 64 → ((nI k).toInt64.toUInt64 &&& Int64.toUInt64 63) = UInt64.ofNat k := by decide +kernel
theorem wb_sm : ∀ k, k < 64 → (BitVec.ofNat 64 k).smod 64 = BitVec.ofNat 64 k := by decide +kernel
theorem fn_b0 : vp_nar .boolean 0 = 0 := by decide
theorem fn_b1 : vp_nar .boolean 1 = 1 := by decide
theorem fn_n0 : narrow .boolean (.int 0) = .int 0 := by rfl
theorem fn_n1 : narrow .boolean (.int 1) = .int 1 := by rfl
theorem fn_m1lt : (-1 : Int32) < 0 := by decide
theorem fn_le0 {a : Nat} (h : a < 2 ^ 31) : nI a ≤ 0 ↔ a = 0 := by
  rw [← nI_0, nI_leI h (by omega)]; omega
theorem fn_eq0 {a : Nat} (h : a < 2 ^ 31) : nI a = 0 ↔ a = 0 := by
  rw [← nI_0, nI_eq h (by omega)]
theorem fn_ne1 {a : Nat} (h : a < 2 ^ 31) : ¬ nI a = -1 := by
  intro e
  have := nI_pos (n := a) h
  rw [e] at this
  exact this fn_m1lt
theorem fn_sub1 (x : Int32) : x - 1 = x + (-1) := by
  rw [Int32.sub_eq_add_neg]
/-! bits of an Int32 below 4 -/
def fb_4 (x : Int32) (f : Nat → Bool) : Prop := ∀ i, i < 32 → bt x i = (decide (i < 4) && f i)
theorem fb_ext {x y : Int32} {f : Nat → Bool} (hx : fb_4 x f) (hy : fb_4 y f) : x = y :=
  b_ext fun i hi => (hx i hi).trans (hy i hi).symm
theorem fb_cg {x : Int32} {f g : Nat → Bool} (hx : fb_4 x f) (h : ∀ a, a < 4 → f a = g a) : fb_4 x g := by
  intro i hi
  rw [hx i hi]
  by_cases h4 : i < 4
  · rw [h i h4]
  · simp [h4]
theorem fb_0 : fb_4 0 (fun _ => false) := by
  intro i hi
  rw [b_0]; simp
theorem fb_or {x y : Int32} {f g : Nat → Bool} (hx : fb_4 x f) (hy : fb_4 y g) : fb_4 (x ||| y) (fun a => f a || g a) := by
  intro i hi
  rw [b_or, hx i hi, hy i hi]
  cases decide (i < 4) <;> simp
theorem fb_and {x y : Int32} {f g : Nat → Bool} (hx : fb_4 x f) (hy : fb_4 y g) : fb_4 (x &&& y) (fun a => f a && g a) := by
  intro i hi
  rw [b_and, hx i hi, hy i hi]
  cases decide (i < 4) <;> simp
theorem fb_not {x y : Int32} {f g : Nat → Bool} (hx : fb_4 x f) (hy : fb_4 y g) : fb_4 (x &&& (y ^^^ (-1))) (fun a => f a && !g a) := by
  intro i hi
  rw [b_and, b_xor, b_m1 i hi, hx i hi, hy i hi]
  cases decide (i < 4) <;> simp
theorem fb_bit : ∀ a, a < 4 → ∀ i, i < 32 → bt ((1 : Int32) <<< (nI a &&& 31)) i = (decide (i < 4) && decide (i = a)) := by decide +kernel
theorem fb_1 {a : Nat} (h : a < 4) : fb_4 ((1 : Int32) <<< (nI a &&& 31)) (fun i => decide (i = a)) := fb_bit a h
theorem fb_b1 : ∀ i, i < 32 → bt 1 i = decide (i = 0) := by decide +kernel
theorem fb_tst {x : Int32} {f : Nat → Bool} (hx : fb_4 x f) {a : Nat} (ha : a < 4) : ((x >>> (nI a &&& 31)) &&& 1) = if f a then 1 else 0 := by
  apply b_ext
  intro i hi
  rw [b_and, fb_b1 i hi, b_sshr a (by omega) x hi]
  by_cases h0 : i = 0
  · subst h0
    rw [if_pos (by omega), Nat.add_zero, hx a (by omega)]
    cases h : f a
    · simp [ha, b_0]
    · simp [ha, fb_b1 0 (by omega)]
  · rw [decide_eq_false h0, Bool.and_false]
    cases h : f a
    · simp [b_0]
    · simp [fb_b1 i hi, h0]
theorem fb_t1 {x : Int32} {f : Nat → Bool} (hx : fb_4 x f) {a : Nat} (ha : a < 4) : ((x >>> (nI a &&& 31)) &&& 1) = 1 ↔ f a = true := by
  rw [fb_tst hx ha]
  cases f a <;> simp
theorem fb_t0 {x : Int32} {f : Nat → Bool} (hx : fb_4 x f) {a : Nat} (ha : a < 4) : ((x >>> (nI a &&& 31)) &&& 1) = 0 ↔ f a = false := by
  rw [fb_tst hx ha]
  cases f a <;> simp
theorem fb_z {x : Int32} {f : Nat → Bool} (hx : fb_4 x f) : x = 0 ↔ ∀ a, a < 4 → f a = false := by
  constructor
  · intro e a ha
    have := hx a (by omega)
    rw [e, b_0, decide_eq_true ha, Bool.true_and] at this
    exact this.symm
  · intro h
    apply b_ext
    intro i hi
    rw [hx i hi, b_0]
    by_cases h4 : i < 4
    · rw [h i h4, Bool.and_false]
    · simp [h4]
/-! bits of an Int64 -/
def fl_b (w : Int64) (j : Nat) : Bool := w.toBitVec.getLsbD j
theorem fl_or (x y : Int64) (i : Nat) : fl_b (x ||| y) i = (fl_b x i || fl_b y i) := by unfold fl_b; rw [Int64.toBitVec_or, BitVec.getLsbD_or]
theorem fl_0 (i : Nat) : fl_b 0 i = false := BitVec.getLsbD_zero
theorem fl_tp : ∀ j, j < 64 → ((1 : Int64) <<< ((nI j).toInt64 &&& 63)).toBitVec = BitVec.twoPow 64 j := by decide +kernel
theorem fl_set (w : Int64) {i j : Nat} (hi : i < 64) (hj : j < 64) : fl_b (w ||| ((1 : Int64) <<< ((nI j).toInt64 &&& 63))) i = (fl_b w i || decide (i = j)) := by
  unfold fl_b
  rw [Int64.toBitVec_or, BitVec.getLsbD_or, fl_tp j hj, BitVec.getLsbD_twoPow]
  by_cases h : i = j
  · subst h; simp [hi]
  · simp [h, Ne.symm h]
theorem fl_clr (w : Int64) {i j : Nat} (hi : i < 64) (hj : j < 64) : fl_b (w &&& (((1 : Int64) <<< ((nI j).toInt64 &&& 63)) ^^^ (-1))) i = (fl_b w i && !decide (i = j)) := by
  unfold fl_b
  have ha : (-1 : Int64).toBitVec = BitVec.allOnes 64 := by decide
  rw [Int64.toBitVec_and, Int64.toBitVec_xor, BitVec.getLsbD_and, BitVec.getLsbD_xor, fl_tp j hj, BitVec.getLsbD_twoPow, ha, BitVec.getLsbD_allOnes]
  by_cases h : i = j
  · subst h; simp [hi]
  · simp [h, Ne.symm h, hi]
theorem fl_one (x : BitVec 64) : (x &&& 1#64) = if x.getLsbD 0 then 1#64 else 0#64 := by
  apply BitVec.eq_of_getLsbD_eq
  intro i hi
  rw [BitVec.getLsbD_and, BitVec.getLsbD_one]
  by_cases h0 : i = 0
  · subst h0; cases h : x.getLsbD 0 <;> simp
  · cases h : x.getLsbD 0 <;> simp [h0]
theorem fl_iff {x : Int64} {b : Bool} (h : x.toBitVec = if b then 1#64 else 0#64) : (x = 1 ↔ b = true) := by
  rw [← Int64.toBitVec_inj, h]
  cases b
  · constructor
    · intro z; exact absurd z (by decide)
    · intro z; cases z
  · exact ⟨fun _ => rfl, fun _ => rfl⟩
theorem fl_sr (w : Int64) {j : Nat} (hj : j < 64) : (((w >>> ((nI j).toInt64 &&& 63)) &&& 1) = 1 ↔ fl_b w j = true) := by
  apply fl_iff
  rw [Int64.toBitVec_and, Int64.toBitVec_shiftRight, wb_c j hj]
  show BitVec.sshiftRight w.toBitVec (((lN j).toBitVec.smod 64)).toNat &&& 1#64 = _
  rw [wb_tb, wb_sm j hj, fl_one, BitVec.getLsbD_sshiftRight, BitVec.toNat_ofNat, Nat.mod_eq_of_lt (by omega)]
  unfold fl_b
  simp [hj]
theorem fl_ur (w : Int64) {j : Nat} (hj : j < 64) : (((w.toUInt64 >>> ((nI j).toInt64.toUInt64 &&& Int64.toUInt64 63)).toInt64 &&& 1) = 1 ↔ fl_b w j = true) := by
  apply fl_iff
  rw [wb_cu j hj, Int64.toBitVec_and]
  have e : (w.toUInt64 >>> UInt64.ofNat j).toInt64.toBitVec = w.toBitVec >>> j := by
    apply BitVec.eq_of_toNat_eq
    show (w.toUInt64 >>> UInt64.ofNat j).toNat = _
    rw [UInt64.toNat_shiftRight, UInt64.toNat_ofNat_of_lt' (show j < 18446744073709551616 by omega), Nat.mod_eq_of_lt hj, BitVec.toNat_ushiftRight]
    rfl
  rw [e]
  show w.toBitVec >>> j &&& 1#64 = _
  rw [fl_one, BitVec.getLsbD_ushiftRight, Nat.add_zero]
  rfl
def fl_h (a : Nat → Int64) (b t : Nat) : Bool := fl_b (a (b + t / 64)) (t % 64)
def fl_put (a : Nat → Int64) (b t : Nat) : Nat → Int64 := vp_updL a (b + t / 64) (a (b + t / 64) ||| ((1 : Int64) <<< ((nI (t % 64)).toInt64 &&& 63)))
def fl_del (a : Nat → Int64) (t : Nat) : Nat → Int64 := vp_updL a (t / 64) (a (t / 64) &&& (((1 : Int64) <<< ((nI (t % 64)).toInt64 &&& 63)) ^^^ (-1)))
theorem fl_hs (a : Nat → Int64) {b b' t t' : Nat} (hb : b % 2 = 0) (hb' : b' % 2 = 0) (ht : t < 128) (ht' : t' < 128) :
    fl_h (fl_put a b t) b' t' = (fl_h a b' t' || decide (b' = b ∧ t' = t)) := by
  unfold fl_h fl_put
  by_cases e : b' + t' / 64 = b + t / 64
  · rw [e, pk_uLs, fl_set _ (by omega) (by omega)]
    congr 1
    apply decide_eq_decide.mpr
    omega
  · rw [pk_uLn e]
    have : ¬ (b' = b ∧ t' = t) := by
      intro h; apply e; rw [h.1, h.2]
    simp [this]
theorem fl_hc (a : Nat → Int64) {t t' : Nat} (ht : t < 128) (ht' : t' < 128) :
    fl_h (fl_del a t) 0 t' = (fl_h a 0 t' && !decide (t' = t)) := by
  unfold fl_h fl_del
  rw [Nat.zero_add]
  by_cases e : t' / 64 = t / 64
  · rw [e, pk_uLs, fl_clr _ (by omega) (by omega)]
    congr 2
    apply decide_eq_decide.mpr
    omega
  · rw [pk_uLn e]
    have : ¬ (t' = t) := by
      intro h; apply e; rw [h]
    simp [this]
end FNUM
