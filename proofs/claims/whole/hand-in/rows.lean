section
section FNUM
theorem pk_us {f : Nat → Int32} {k : Nat} {x : Int32} : upd f k x k = x := if_pos rfl
theorem pk_un {f : Nat → Int32} {k j : Nat} {x : Int32} (h : j ≠ k) : upd f k x j = f j := if_neg h
theorem pk_uLs {f : Nat → Int64} {k : Nat} {x : Int64} : vp_updL f k x k = x := if_pos rfl
theorem pk_uLn {f : Nat → Int64} {k j : Nat} {x : Int64} (h : j ≠ k) : vp_updL f k x j = f j := if_neg h
theorem pk_sub {a b : Nat} (h : b ≤ a) : nI a - nI b = nI (a - b) := by
  obtain ⟨c, rfl⟩ : ∃ c, a = c + b := ⟨a - b, by omega⟩
  rw [← nI_add, Int32.add_sub_cancel, Nat.add_sub_cancel]
theorem pk_m1 (n : Nat) : nI (n + 1) + (-1) = nI n := by
  rw [← nI_1, Int32.add_assoc, show (1 : Int32) + (-1) = 0 from rfl, Int32.add_zero]
theorem pk_mul (a b : Nat) : nI a * nI b = nI (a * b) := (Int32.ofNat_mul a b).symm
theorem pk_div {a d : Nat} (ha : a < 2 ^ 31) (h0 : 0 < d) (hd : d < 2 ^ 31) : nI a / nI d = nI (a / d) := by
  apply Int32.toInt_inj.mp
  rw [lg_idiv_nonneg (by rw [nI_toInt ha]; omega) (by rw [nI_toInt hd]; omega), nI_toInt ha, nI_toInt hd, nI_toInt (Nat.lt_of_le_of_lt (Nat.div_le_self a d) ha)]
  first | rfl | exact (Int.natCast_ediv _ _).symm
theorem pk_rem {a d : Nat} (ha : a < 2 ^ 31) (h0 : 0 < d) (hd : d < 2 ^ 31) : nI a - nI a / nI d * nI d = nI (a % d) := by
  rw [pk_div ha h0 hd, pk_mul, pk_sub (Nat.div_mul_le_self a d)]
  exact congrArg nI (by have := Nat.div_add_mod' a d; omega)
theorem pk_sub_toInt {a b : Nat} (ha : a < 2 ^ 30) (hb : b < 2 ^ 30) : (nI a - nI b).toInt = (a : Int) - b := by
  rw [Int32.toInt_sub, nI_toInt (by omega), nI_toInt (by omega)]
  exact Int.bmod_eq_of_le (by omega) (by omega)
theorem pk_sneg {a b : Nat} (hb : b < 2 ^ 30) (h : a < b) : nI a - nI b < 0 := by
  rw [Int32.lt_iff_toInt_lt, pk_sub_toInt (by omega) hb, show (0 : Int32).toInt = 0 from by decide]
  omega
theorem pk_ix (x : Int32) {n : Nat} (hn : n < 2 ^ 31) : x < 0 ∨ nI n ≤ x ∨ ∃ j : Nat, j < n ∧ x = nI j := by
  by_cases h : x < 0
  · exact Or.inl h
  · obtain ⟨j, hj, rfl⟩ := nI_of h
    by_cases h2 : j < n
    · exact Or.inr (Or.inr ⟨j, h2, rfl⟩)
    · exact Or.inr (Or.inl (nI_le (by omega) hj))
theorem pk_le {x y : Int32} {A B : Prop} (a b : Nat) (f : a ≤ b → A) (g : b < a → B) (hx : x = nI a := by rfl) (hy : y = nI b := by rfl) (ha : a < 2 ^ 31 := by omega) (hb : b < 2 ^ 31 := by omega) : (x ≤ y → A) ∧ (¬ x ≤ y → B) := by
  subst hx hy
  rw [nI_leI ha hb]
  exact ⟨f, fun z => g (by omega)⟩
theorem pk_lt {x y : Int32} {A B : Prop} (a b : Nat) (f : a < b → A) (g : b ≤ a → B) (hx : x = nI a := by rfl) (hy : y = nI b := by rfl) (ha : a < 2 ^ 31 := by omega) (hb : b < 2 ^ 31 := by omega) : (x < y → A) ∧ (¬ x < y → B) := by
  subst hx hy
  rw [nI_ltI ha hb]
  exact ⟨f, fun z => g (by omega)⟩
theorem pk_eq {x y : Int32} {A B : Prop} (a b : Nat) (f : a = b → A) (g : a ≠ b → B) (hx : x = nI a := by rfl) (hy : y = nI b := by rfl) (ha : a < 2 ^ 31 := by omega) (hb : b < 2 ^ 31 := by omega) : (x = y → A) ∧ (¬ x = y → B) := by
  subst hx hy
  rw [nI_eq ha hb]
  exact ⟨f, g⟩
theorem pk_in {x : Int32} (n N : Nat) (h : n < N) (hx : x = nI n := by rfl) (hN : N < 2 ^ 31 := by omega) : vp_in x N := by
  subst hx
  exact vp_in_nI h hN
theorem pk_cl {x : Int32} (n : Nat) (hx : x = nI n := by rfl) (h : n < 2 ^ 31 := by omega) : x.toNatClampNeg = n := by
  subst hx
  exact nI_clamp h
theorem pk_loop {σ : Type} (W : Nat → Nat → σ → Prop) (I : Nat → σ → Prop) (e i0 : Nat) (s : σ) (hi : i0 ≤ e) (h0 : I i0 s) (hx : ∀ n s, I e s → W (n + 1) e s)
    (hs : ∀ n i s, i < e → I i s → (∀ s', I (i + 1) s' → W n (i + 1) s') → W (n + 1) i s) : ∃ n, W n i0 s :=
  ⟨e + 1, loop_i W I e hx hs (e + 1) i0 s hi (by omega) h0⟩
theorem pk_loopD {σ : Type} (W : Nat → Nat → σ → Prop) (I : Nat → σ → Prop) (hx : ∀ n s, I 0 s → W (n + 1) 0 s)
    (hs : ∀ n i s, I (i + 1) s → (∀ s', I i s' → W n i s') → W (n + 1) (i + 1) s) : ∀ (e : Nat) (s : σ), I e s → W (e + 1) e s := by
  intro e
  induction e with
  | zero => exact fun s h => hx 0 s h
  | succ e ih => exact fun s h => hs (e + 1) e s h (fun s' h' => ih s' h')
theorem pk_least (P : Nat → Prop) (h : ∃ k, P k) : ∃ k, P k ∧ ∀ j, j < k → ¬ P j := by
  obtain ⟨k, hk⟩ := h
  induction k using Nat.strongRecOn with
  | ind k ih =>
    by_cases e : ∃ j, j < k ∧ P j
    · obtain ⟨j, hj, pj⟩ := e
      exact ih j hj pj
    · exact ⟨k, hk, fun j hj pj => e ⟨j, hj, pj⟩⟩
def bt (x : Int32) (i : Nat) : Bool := x.toBitVec.getLsbD i
theorem b_ext {x y : Int32} (h : ∀ i, i < 32 → bt x i = bt y i) : x = y := Int32.toBitVec_inj.mp (BitVec.eq_of_getLsbD_eq (fun i hi => h i hi))
theorem b_or (x y : Int32) (i : Nat) : bt (x ||| y) i = (bt x i || bt y i) := by unfold bt; rw [Int32.toBitVec_or, BitVec.getLsbD_or]
theorem b_and (x y : Int32) (i : Nat) : bt (x &&& y) i = (bt x i && bt y i) := by unfold bt; rw [Int32.toBitVec_and, BitVec.getLsbD_and]
theorem b_xor (x y : Int32) (i : Nat) : bt (x ^^^ y) i = (bt x i ^^ bt y i) := by unfold bt; rw [Int32.toBitVec_xor, BitVec.getLsbD_xor]
theorem b_big {x : Int32} {i : Nat} (h : 32 ≤ i) : bt x i = false := BitVec.getLsbD_of_ge _ _ h
theorem b_m1 : ∀ i, i < 32 → bt (-1) i = true := by decide +kernel
theorem b_0 (i : Nat) : bt 0 i = false := BitVec.getLsbD_zero
theorem s_l : ∀ n, n < 32 → ((nI n &&& 31).toBitVec.smod 32).toNat = n := by decide +kernel
theorem b_shl (n : Nat) (hn : n < 32) (x : Int32) {i : Nat} (hi : i < 32) : bt (x <<< (nI n &&& 31)) i = (decide (n ≤ i) && bt x (i - n)) := by
  unfold bt
  rw [Int32.toBitVec_shiftLeft]
  show (x.toBitVec <<< ((nI n &&& 31).toBitVec.smod 32).toNat).getLsbD i = _
  rw [s_l n hn, BitVec.getLsbD_shiftLeft]
  rcases Nat.lt_or_ge i n with h | h
  · simp [h, Nat.not_le.mpr h]
  · simp [hi, h, Nat.not_lt.mpr h]
theorem b_sshr (n : Nat) (hn : n < 32) (x : Int32) {i : Nat} (hi : i < 32) : bt (x >>> (nI n &&& 31)) i = if n + i < 32 then bt x (n + i) else bt x 31 := by
  unfold bt
  rw [Int32.toBitVec_shiftRight]
  show (x.toBitVec.sshiftRight ((nI n &&& 31).toBitVec.smod 32).toNat).getLsbD i = _
  rw [s_l n hn, BitVec.getLsbD_sshiftRight, BitVec.msb_eq_getLsbD_last]
  simp [hi]
theorem wb_tb (n : Nat) : (lN n).toBitVec = BitVec.ofNat 64 n := rfl
theorem wb_inj {a b : Int64} (h : a.toBitVec = b.toBitVec) : a = b := Int64.toBitVec_inj.mp h
theorem wb_c : ∀ k, k < 64 → ((nI k).toInt64 &&& 63) = lN k := by decide +kernel
theorem wb_cu : ∀ k, k < 64 → ((nI k).toInt64.toUInt64 &&& Int64.toUInt64 63) = UInt64.ofNat k := by decide +kernel
theorem wb_sm : ∀ k, k < 64 → (BitVec.ofNat 64 k).smod 64 = BitVec.ofNat 64 k := by decide +kernel
theorem fn_b0 : vp_nar .boolean 0 = 0 := by decide
theorem fn_b1 : vp_nar .boolean 1 = 1 := by decide
theorem fn_n0 : narrow .boolean (.int 0) = .int 0 := by rfl
theorem fn_n1 : narrow .boolean (.int 1) = .int 1 := by rfl
theorem fn_m1lt : (-1 : Int32) < 0 := by decide
theorem fn_le0 {a : Nat} (h : a < 2 ^ 31) : nI a ≤ 0 ↔ a = 0 := by
  rw [← nI_0, nI_leI h (by omega)]; omega
theorem fn_eq0 {a : Nat} (h : a < 2 ^ 31) : nI a = 0 ↔ a = 0 := by
  rw [← nI_0, nI_eq h (by omega)]
theorem fn_ne1 {a : Nat} (h : a < 2 ^ 31) : ¬ nI a = -1 := by
  intro e
  have := nI_pos (n := a) h
  rw [e] at this
  exact this fn_m1lt
theorem fn_sub1 (x : Int32) : x - 1 = x + (-1) := by
  rw [Int32.sub_eq_add_neg]
/-! bits of an Int32 below 4 -/
def fb_4 (x : Int32) (f : Nat → Bool) : Prop := ∀ i, i < 32 → bt x i = (decide (i < 4) && f i)
theorem fb_ext {x y : Int32} {f : Nat → Bool} (hx : fb_4 x f) (hy : fb_4 y f) : x = y :=
  b_ext fun i hi => (hx i hi).trans (hy i hi).symm
theorem fb_cg {x : Int32} {f g : Nat → Bool} (hx : fb_4 x f) (h : ∀ a, a < 4 → f a = g a) : fb_4 x g := by
  intro i hi
  rw [hx i hi]
  by_cases h4 : i < 4
  · rw [h i h4]
  · simp [h4]
theorem fb_0 : fb_4 0 (fun _ => false) := by
  intro i hi
  rw [b_0]; simp
theorem fb_or {x y : Int32} {f g : Nat → Bool} (hx : fb_4 x f) (hy : fb_4 y g) : fb_4 (x ||| y) (fun a => f a || g a) := by
  intro i hi
  rw [b_or, hx i hi, hy i hi]
  cases decide (i < 4) <;> simp
theorem fb_and {x y : Int32} {f g : Nat → Bool} (hx : fb_4 x f) (hy : fb_4 y g) : fb_4 (x &&& y) (fun a => f a && g a) := by
  intro i hi
  rw [b_and, hx i hi, hy i hi]
  cases decide (i < 4) <;> simp
theorem fb_not {x y : Int32} {f g : Nat → Bool} (hx : fb_4 x f) (hy : fb_4 y g) : fb_4 (x &&& (y ^^^ (-1))) (fun a => f a && !g a) := by
  intro i hi
  rw [b_and, b_xor, b_m1 i hi, hx i hi, hy i hi]
  cases decide (i < 4) <;> simp
theorem fb_bit : ∀ a, a < 4 → ∀ i, i < 32 → bt ((1 : Int32) <<< (nI a &&& 31)) i = (decide (i < 4) && decide (i = a)) := by decide +kernel
theorem fb_1 {a : Nat} (h : a < 4) : fb_4 ((1 : Int32) <<< (nI a &&& 31)) (fun i => decide (i = a)) := fb_bit a h
theorem fb_b1 : ∀ i, i < 32 → bt 1 i = decide (i = 0) := by decide +kernel
theorem fb_tst {x : Int32} {f : Nat → Bool} (hx : fb_4 x f) {a : Nat} (ha : a < 4) : ((x >>> (nI a &&& 31)) &&& 1) = if f a then 1 else 0 := by
  apply b_ext
  intro i hi
  rw [b_and, fb_b1 i hi, b_sshr a (by omega) x hi]
  by_cases h0 : i = 0
  · subst h0
    rw [if_pos (by omega), Nat.add_zero, hx a (by omega)]
    cases h : f a
    · simp [ha, b_0]
    · simp [ha, fb_b1 0 (by omega)]
  · rw [decide_eq_false h0, Bool.and_false]
    cases h : f a
    · simp [b_0]
    · simp [fb_b1 i hi, h0]
theorem fb_t1 {x : Int32} {f : Nat → Bool} (hx : fb_4 x f) {a : Nat} (ha : a < 4) : ((x >>> (nI a &&& 31)) &&& 1) = 1 ↔ f a = true := by
  rw [fb_tst hx ha]
  cases f a <;> simp
theorem fb_t0 {x : Int32} {f : Nat → Bool} (hx : fb_4 x f) {a : Nat} (ha : a < 4) : ((x >>> (nI a &&& 31)) &&& 1) = 0 ↔ f a = false := by
  rw [fb_tst hx ha]
  cases f a <;> simp
theorem fb_z {x : Int32} {f : Nat → Bool} (hx : fb_4 x f) : x = 0 ↔ ∀ a, a < 4 → f a = false := by
  constructor
  · intro e a ha
    have := hx a (by omega)
    rw [e, b_0, decide_eq_true ha, Bool.true_and] at this
    exact this.symm
  · intro h
    apply b_ext
    intro i hi
    rw [hx i hi, b_0]
    by_cases h4 : i < 4
    · rw [h i h4, Bool.and_false]
    · simp [h4]
/-! bits of an Int64 -/
def fl_b (w : Int64) (j : Nat) : Bool := w.toBitVec.getLsbD j
theorem fl_or (x y : Int64) (i : Nat) : fl_b (x ||| y) i = (fl_b x i || fl_b y i) := by unfold fl_b; rw [Int64.toBitVec_or, BitVec.getLsbD_or]
theorem fl_0 (i : Nat) : fl_b 0 i = false := BitVec.getLsbD_zero
theorem fl_tp : ∀ j, j < 64 → ((1 : Int64) <<< ((nI j).toInt64 &&& 63)).toBitVec = BitVec.twoPow 64 j := by decide +kernel
theorem fl_set (w : Int64) {i j : Nat} (hi : i < 64) (hj : j < 64) : fl_b (w ||| ((1 : Int64) <<< ((nI j).toInt64 &&& 63))) i = (fl_b w i || decide (i = j)) := by
  unfold fl_b
  rw [Int64.toBitVec_or, BitVec.getLsbD_or, fl_tp j hj, BitVec.getLsbD_twoPow]
  by_cases h : i = j
  · subst h; simp [hi]
  · simp [h, Ne.symm h]
theorem fl_clr (w : Int64) {i j : Nat} (hi : i < 64) (hj : j < 64) : fl_b (w &&& (((1 : Int64) <<< ((nI j).toInt64 &&& 63)) ^^^ (-1))) i = (fl_b w i && !decide (i = j)) := by
  unfold fl_b
  have ha : (-1 : Int64).toBitVec = BitVec.allOnes 64 := by decide
  rw [Int64.toBitVec_and, Int64.toBitVec_xor, BitVec.getLsbD_and, BitVec.getLsbD_xor, fl_tp j hj, BitVec.getLsbD_twoPow, ha, BitVec.getLsbD_allOnes]
  by_cases h : i = j
  · subst h; simp [hi]
  · simp [h, Ne.symm h, hi]
theorem fl_one (x : BitVec 64) : (x &&& 1#64) = if x.getLsbD 0 then 1#64 else 0#64 := by
  apply BitVec.eq_of_getLsbD_eq
  intro i hi
  rw [BitVec.getLsbD_and, BitVec.getLsbD_one]
  by_cases h0 : i = 0
  · subst h0; cases h : x.getLsbD 0 <;> simp
  · cases h : x.getLsbD 0 <;> simp [h0]
theorem fl_iff {x : Int64} {b : Bool} (h : x.toBitVec = if b then 1#64 else 0#64) : (x = 1 ↔ b = true) := by
  rw [← Int64.toBitVec_inj, h]
  cases b
  · constructor
    · intro z; exact absurd z (by decide)
    · intro z; cases z
  · exact ⟨fun _ => rfl, fun _ => rfl⟩
theorem fl_sr (w : Int64) {j : Nat} (hj : j < 64) : (((w >>> ((nI j).toInt64 &&& 63)) &&& 1) = 1 ↔ fl_b w j = true) := by
  apply fl_iff
  rw [Int64.toBitVec_and, Int64.toBitVec_shiftRight, wb_c j hj]
  show BitVec.sshiftRight w.toBitVec (((lN j).toBitVec.smod 64)).toNat &&& 1#64 = _
  rw [wb_tb, wb_sm j hj, fl_one, BitVec.getLsbD_sshiftRight, BitVec.toNat_ofNat, Nat.mod_eq_of_lt (by omega)]
  unfold fl_b
  simp [hj]
theorem fl_ur (w : Int64) {j : Nat} (hj : j < 64) : (((w.toUInt64 >>> ((nI j).toInt64.toUInt64 &&& Int64.toUInt64 63)).toInt64 &&& 1) = 1 ↔ fl_b w j = true) := by
  apply fl_iff
  rw [wb_cu j hj, Int64.toBitVec_and]
  have e : (w.toUInt64 >>> UInt64.ofNat j).toInt64.toBitVec = w.toBitVec >>> j := by
    apply BitVec.eq_of_toNat_eq
    show (w.toUInt64 >>> UInt64.ofNat j).toNat = _
    rw [UInt64.toNat_shiftRight, UInt64.toNat_ofNat_of_lt' (show j < 18446744073709551616 by omega), Nat.mod_eq_of_lt hj, BitVec.toNat_ushiftRight]
    rfl
  rw [e]
  show w.toBitVec >>> j &&& 1#64 = _
  rw [fl_one, BitVec.getLsbD_ushiftRight, Nat.add_zero]
  rfl
def fl_h (a : Nat → Int64) (b t : Nat) : Bool := fl_b (a (b + t / 64)) (t % 64)
def fl_put (a : Nat → Int64) (b t : Nat) : Nat → Int64 := vp_updL a (b + t / 64) (a (b + t / 64) ||| ((1 : Int64) <<< ((nI (t % 64)).toInt64 &&& 63)))
def fl_del (a : Nat → Int64) (t : Nat) : Nat → Int64 := vp_updL a (t / 64) (a (t / 64) &&& (((1 : Int64) <<< ((nI (t % 64)).toInt64 &&& 63)) ^^^ (-1)))
theorem fl_hs (a : Nat → Int64) {b b' t t' : Nat} (hb : b % 2 = 0) (hb' : b' % 2 = 0) (ht : t < 128) (ht' : t' < 128) :
    fl_h (fl_put a b t) b' t' = (fl_h a b' t' || decide (b' = b ∧ t' = t)) := by
  unfold fl_h fl_put
  by_cases e : b' + t' / 64 = b + t / 64
  · rw [e, pk_uLs, fl_set _ (by omega) (by omega)]
    congr 1
    apply decide_eq_decide.mpr
    omega
  · rw [pk_uLn e]
    have : ¬ (b' = b ∧ t' = t) := by
      intro h; apply e; rw [h.1, h.2]
    simp [this]
theorem fl_hc (a : Nat → Int64) {t t' : Nat} (ht : t < 128) (ht' : t' < 128) :
    fl_h (fl_del a t) 0 t' = (fl_h a 0 t' && !decide (t' = t)) := by
  unfold fl_h fl_del
  rw [Nat.zero_add]
  by_cases e : t' / 64 = t / 64
  · rw [e, pk_uLs, fl_clr _ (by omega) (by omega)]
    congr 2
    apply decide_eq_decide.mpr
    omega
  · rw [pk_uLn e]
    have : ¬ (t' = t) := by
      intro h; apply e; rw [h]
    simp [this]
end FNUM
end
section
section FEXP
/-! expressions: codes, values -/
def fc_a (c : Nat) : Nat := if c < 20 then 0 else if c = 27 then 1 else if c = 28 then 3 else 2
def fc_bin (c : Nat) (x y : Int32) : Int32 :=
  if c = 20 then x + y else if c = 21 then x - y else if c = 22 then x * y else if c = 23 then (if x = y then 1 else 0)
  else if c = 24 then (if y ≤ x then 0 else 1) else if c = 25 then (if x = 0 then 0 else if y = 0 then 0 else 1)
  else (if x = 0 then (if y = 0 then 0 else 1) else 1)
def fc_u (l : List Int32) : List Int32 := match l with | x :: r => (if x = 0 then 1 else 0) :: r | [] => []
def fc_t (l : List Int32) : List Int32 := match l with | x :: y :: z :: r => (if x = 0 then z else y) :: r | _ => []
def fc_d (c : Nat) (l : List Int32) : List Int32 := match l with | x :: y :: r => fc_bin c x y :: r | _ => []
def fc_op (c : Nat) (vl : Nat → Int32) (l : List Int32) : List Int32 :=
  if c < 10 then nI c :: l else if c < 20 then vl (c - 10) :: l else if c = 27 then fc_u l else if c = 28 then fc_t l else fc_d c l
def fc_run (T : Nat → Nat) (vl : Nat → Int32) : Nat → List Int32 → Int32
  | 0, l => l.headD 0
  | i + 1, l => fc_run T vl i (fc_op (T i) vl l)
theorem fc_run_cg {T U : Nat → Nat} {vl : Nat → Int32} : ∀ (n : Nat) (l : List Int32), (∀ i, i < n → T i = U i) → fc_run T vl n l = fc_run U vl n l := by
  intro n
  induction n with
  | zero => intro l _; rfl
  | succ n ih =>
    intro l h
    show fc_run T vl n (fc_op (T n) vl l) = fc_run U vl n (fc_op (U n) vl l)
    rw [h n (by omega)]
    exact ih _ (fun i hi => h i (by omega))
def fc_SK (st : Nat → Int32) : List Int32 → Prop
  | [] => True
  | x :: l => st l.length = x ∧ fc_SK st l
theorem fc_SKu {st : Nat → Int32} {k : Nat} {x : Int32} : ∀ l : List Int32, l.length ≤ k → fc_SK st l → fc_SK (upd st k x) l := by
  intro l
  induction l with
  | nil => intro _ _; trivial
  | cons y l ih =>
    intro h hs
    have hl : (y :: l).length = l.length + 1 := rfl
    exact ⟨(pk_un (by omega)).trans hs.1, ih (by omega) hs.2⟩
theorem fc_SKc {st : Nat → Int32} {x : Int32} {l : List Int32} (h : fc_SK st l) : fc_SK (upd st l.length x) (x :: l) :=
  ⟨pk_us, fc_SKu l (Nat.le_refl _) h⟩
/-! what is missing ahead of token i -/
def fc_ms (T : Nat → Nat) : Nat → Nat
  | 0 => 1
  | i + 1 => fc_ms T i + fc_a (T i) - 1
def fc_ex (T : Nat → Nat) (n : Nat) : Prop := (∀ i, i < n → 0 < fc_ms T i) ∧ fc_ms T n = 0
theorem fc_ms_cg {T U : Nat → Nat} : ∀ n : Nat, (∀ i, i < n → T i = U i) → fc_ms T n = fc_ms U n := by
  intro n
  induction n with
  | zero => intro _; rfl
  | succ n ih =>
    intro h
    show fc_ms T n + fc_a (T n) - 1 = fc_ms U n + fc_a (U n) - 1
    rw [ih (fun i hi => h i (by omega)), h n (by omega)]
theorem fc_ex_cg {T U : Nat → Nat} {n : Nat} (h : ∀ i, i < n → T i = U i) (e : fc_ex T n) : fc_ex U n := by
  refine ⟨fun i hi => ?_, ?_⟩
  · rw [← fc_ms_cg i (fun j hj => h j (by omega))]; exact e.1 i hi
  · rw [← fc_ms_cg n h]; exact e.2
theorem fc_a3 (c : Nat) : fc_a c ≤ 3 := by
  unfold fc_a; split
  · omega
  · split
    · omega
    · split <;> omega
theorem fc_ms_up (T : Nat → Nat) : ∀ i, fc_ms T i ≤ 1 + 2 * i := by
  intro i
  induction i with
  | zero => exact Nat.le_refl _
  | succ i ih =>
    show fc_ms T i + fc_a (T i) - 1 ≤ _
    have := fc_a3 (T i)
    omega
theorem fc_ms_dn {T : Nat → Nat} {n : Nat} (e : fc_ex T n) : ∀ d i, i + d = n → fc_ms T i ≤ d := by
  intro d
  induction d with
  | zero => intro i hi; rw [show i = n by omega, e.2]; exact Nat.le_refl _
  | succ d ih =>
    intro i hi
    have h1 := ih (i + 1) (by omega)
    have h2 : fc_ms T (i + 1) = fc_ms T i + fc_a (T i) - 1 := rfl
    have h3 := e.1 i (by omega)
    omega
theorem fc_ex0 {T : Nat → Nat} (e : fc_ex T 0) : False := by
  have : fc_ms T 0 = 1 := rfl
  rw [e.2] at this
  omega
def fc_nc (c : Nat) : Prop := c ≤ 4 ∨ (10 ≤ c ∧ c ≤ 12) ∨ (20 ≤ c ∧ c ≤ 28)
def fc_nm (t : Int32) : Prop := ∃ c : Nat, t = nI c ∧ fc_nc c
theorem fc_nmc {t : Int32} (h : fc_nm t) : t = nI t.toNatClampNeg ∧ fc_nc t.toNatClampNeg := by
  obtain ⟨c, rfl, hc⟩ := h
  have h2 := hc
  unfold fc_nc at h2
  rw [nI_clamp (by omega)]
  exact ⟨rfl, hc⟩
/-! a slot's codes, its validity, its value in a state -/
def fc_T (tk : Nat → Int32) (j : Nat) : Nat → Nat := fun i => (tk (j * 12 + i)).toNatClampNeg
def fc_L (ln : Nat → Int32) (j : Nat) : Nat := (ln j).toNatClampNeg
def fc_sh (tk ln : Nat → Int32) (j : Nat) : Prop := ln j = nI (fc_L ln j) ∧ fc_L ln j ≤ 12 ∧ ∀ i, i < fc_L ln j → fc_nm (tk (j * 12 + i))
def fc_ok (tk ln : Nat → Int32) (j : Nat) : Prop := fc_sh tk ln j ∧ fc_ex (fc_T tk j) (fc_L ln j)
def fc_z (sz : Nat → Int32) (v : Nat) : Nat := (sz v).toNatClampNeg
def fc_Z (sz : Nat → Int32) : Prop := ∀ v, v < 3 → sz v = nI (fc_z sz v) ∧ 1 ≤ fc_z sz v ∧ fc_z sz v ≤ 5
def fc_N (sz : Nat → Int32) : Nat := fc_z sz 0 * fc_z sz 1 * fc_z sz 2
def fc_v (sz : Nat → Int32) (s v : Nat) : Nat := if v = 0 then s % fc_z sz 0 else if v = 1 then s / fc_z sz 0 % fc_z sz 1 else s / fc_z sz 0 / fc_z sz 1 % fc_z sz 2
def fc_w (sz tk ln : Nat → Int32) (j s : Nat) : Int32 := fc_run (fc_T tk j) (fun v => nI (fc_v sz s v)) (fc_L ln j) []
/-- slot j of one side holds what slot k of the other holds -/
def fc_sm (tk ln : Nat → Int32) (j : Nat) (yk yl : Nat → Int32) (k : Nat) : Prop := yl k = ln j ∧ ∀ i, i < fc_L ln j → yk (k * 12 + i) = tk (j * 12 + i)
theorem fc_sm_T {tk ln yk yl : Nat → Int32} {j k : Nat} (h : fc_sm tk ln j yk yl k) : fc_L yl k = fc_L ln j ∧ ∀ i, i < fc_L ln j → fc_T yk k i = fc_T tk j i := by
  refine ⟨?_, fun i hi => ?_⟩
  · unfold fc_L; rw [h.1]
  · unfold fc_T; rw [h.2 i hi]
theorem fc_sm_sh {tk ln yk yl : Nat → Int32} {j k : Nat} (h : fc_sm tk ln j yk yl k) (o : fc_sh tk ln j) : fc_sh yk yl k := by
  obtain ⟨a, b⟩ := fc_sm_T h
  refine ⟨?_, by rw [a]; exact o.2.1, fun i hi => ?_⟩
  · rw [a, h.1]; exact o.1
  · rw [a] at hi
    rw [h.2 i hi]; exact o.2.2 i hi
theorem fc_sm_ok {tk ln yk yl : Nat → Int32} {j k : Nat} (h : fc_sm tk ln j yk yl k) (o : fc_ok tk ln j) : fc_ok yk yl k := by
  obtain ⟨a, b⟩ := fc_sm_T h
  refine ⟨fc_sm_sh h o.1, ?_⟩
  rw [a]
  exact fc_ex_cg (fun i hi => (b i hi).symm) o.2
theorem fc_sm_w {tk ln yk yl : Nat → Int32} {j k : Nat} (h : fc_sm tk ln j yk yl k) (sz : Nat → Int32) (s : Nat) : fc_w sz yk yl k s = fc_w sz tk ln j s := by
  obtain ⟨a, b⟩ := fc_sm_T h
  unfold fc_w
  rw [a]
  exact fc_run_cg _ _ b
theorem fc_N1 {sz : Nat → Int32} (h : fc_Z sz) : 1 ≤ fc_N sz ∧ fc_N sz ≤ 125 := by
  have h0 := h 0 (by omega)
  have h1 := h 1 (by omega)
  have h2 := h 2 (by omega)
  unfold fc_N
  generalize fc_z sz 0 = a at *
  generalize fc_z sz 1 = b at *
  generalize fc_z sz 2 = c at *
  have k1 : 1 * 1 ≤ a * b := Nat.mul_le_mul h0.2.1 h1.2.1
  have k2 : a * b ≤ 5 * 5 := Nat.mul_le_mul h0.2.2 h1.2.2
  have k3 : 1 * 1 ≤ a * b * c := Nat.mul_le_mul (by omega) h2.2.1
  have k4 : a * b * c ≤ 25 * 5 := Nat.mul_le_mul (by omega) h2.2.2
  omega
theorem fc_Nn {sz : Nat → Int32} (h : fc_Z sz) : sz 0 * sz 1 * sz 2 = nI (fc_N sz) := by
  rw [(h 0 (by omega)).1, (h 1 (by omega)).1, (h 2 (by omega)).1, pk_mul, pk_mul]
  rfl
theorem fc_vlt {sz : Nat → Int32} (h : fc_Z sz) (s : Nat) {v : Nat} (hv : v < 3) : fc_v sz s v < fc_z sz v := by
  have h0 := (h 0 (by omega)).2.1
  have h1 := (h 1 (by omega)).2.1
  have h2 := (h 2 (by omega)).2.1
  unfold fc_v
  rcases (show v = 0 ∨ v = 1 ∨ v = 2 by omega) with rfl | rfl | rfl
  · simpa using Nat.mod_lt _ h0
  · simpa using Nat.mod_lt _ h1
  · simpa using Nat.mod_lt _ h2
theorem fc_v2 {sz : Nat → Int32} (h : fc_Z sz) {s : Nat} (hs : s < fc_N sz) : s / fc_z sz 0 / fc_z sz 1 % fc_z sz 2 = s / fc_z sz 0 / fc_z sz 1 := by
  have h0 := (h 0 (by omega)).2.1
  have h1 := (h 1 (by omega)).2.1
  apply Nat.mod_eq_of_lt
  rw [Nat.div_div_eq_div_mul]
  apply Nat.div_lt_of_lt_mul
  exact hs
/-- a state from its values -/
def fc_mk (sz : Nat → Int32) (x y z : Nat) : Nat := x + fc_z sz 0 * (y + fc_z sz 1 * z)
theorem fc_mk_v {sz : Nat → Int32} {x y z : Nat} (hx : x < fc_z sz 0) (hy : y < fc_z sz 1) (hz : z < fc_z sz 2) :
    fc_v sz (fc_mk sz x y z) 0 = x ∧ fc_v sz (fc_mk sz x y z) 1 = y ∧ fc_v sz (fc_mk sz x y z) 2 = z := by
  have e : fc_mk sz x y z / fc_z sz 0 = y + fc_z sz 1 * z := by
    unfold fc_mk
    rw [Nat.add_mul_div_left _ _ (by omega), Nat.div_eq_of_lt hx, Nat.zero_add]
  refine ⟨?_, ?_, ?_⟩
  · show fc_mk sz x y z % fc_z sz 0 = x
    unfold fc_mk
    rw [Nat.add_mul_mod_self_left, Nat.mod_eq_of_lt hx]
  · show fc_mk sz x y z / fc_z sz 0 % fc_z sz 1 = y
    rw [e, Nat.add_mul_mod_self_left, Nat.mod_eq_of_lt hy]
  · show fc_mk sz x y z / fc_z sz 0 / fc_z sz 1 % fc_z sz 2 = z
    rw [e, Nat.add_mul_div_left _ _ (by omega), Nat.div_eq_of_lt hy, Nat.zero_add, Nat.mod_eq_of_lt hz]
theorem fc_v_mk {sz : Nat → Int32} (h : fc_Z sz) {s : Nat} (hs : s < fc_N sz) : fc_mk sz (fc_v sz s 0) (fc_v sz s 1) (fc_v sz s 2) = s := by
  show s % fc_z sz 0 + fc_z sz 0 * (s / fc_z sz 0 % fc_z sz 1 + fc_z sz 1 * (s / fc_z sz 0 / fc_z sz 1 % fc_z sz 2)) = s
  rw [fc_v2 h hs, Nat.mod_add_div, Nat.mod_add_div]
theorem fc_mk_lt {sz : Nat → Int32} {x y z : Nat} (hx : x < fc_z sz 0) (hy : y < fc_z sz 1) (hz : z < fc_z sz 2) : fc_mk sz x y z < fc_N sz := by
  unfold fc_mk fc_N
  generalize fc_z sz 0 = a at *
  generalize fc_z sz 1 = b at *
  generalize fc_z sz 2 = c at *
  have k1 : b * (z + 1) ≤ b * c := Nat.mul_le_mul_left _ hz
  rw [Nat.mul_add] at k1
  have k2 : a * (y + b * z + 1) ≤ a * (b * c) := Nat.mul_le_mul_left _ (by omega)
  rw [Nat.mul_add] at k2
  rw [Nat.mul_assoc]
  omega
/-! where an action leads -/
def fc_rd (w m : Int32) : Int32 := if 0 ≤ w - w / m * m then w - w / m * m else w - w / m * m + m
def fc_g (sz tk ln : Nat → Int32) (a s : Nat) : Bool := decide (fc_L ln (3 + a) ≠ 0) && decide (fc_w sz tk ln (3 + a) s ≠ 0)
def fc_al (sz tk ln an : Nat → Int32) (a v s x : Nat) : Bool :=
  if fc_L ln (7 + (a * 3 + v)) ≠ 0 then decide (nI x = fc_rd (fc_w sz tk ln (7 + (a * 3 + v)) s) (sz v)) else if an (a * 3 + v) = 0 then decide (x = fc_v sz s v) else true
def fc_M (sz tk ln an : Nat → Int32) (a s t : Nat) : Bool :=
  fc_g sz tk ln a s && (fc_al sz tk ln an a 0 s (fc_v sz t 0) && (fc_al sz tk ln an a 1 s (fc_v sz t 1) && fc_al sz tk ln an a 2 s (fc_v sz t 2)))
def fc_tr (sz tk ln : Nat → Int32) (j s : Nat) : Bool := decide (fc_L ln j = 0) || decide (fc_w sz tk ln j s ≠ 0)
theorem fc_rdr (w : Int32) {m : Nat} (h1 : 1 ≤ m) (h5 : m ≤ 5) : ∃ k, k < m ∧ fc_rd w (nI m) = nI k := by
  have e := rem_toInt w (nI m)
  rw [nI_toInt (n := m) (by omega)] at e
  have b := tmod_bounds (a := w.toInt) (M := (m : Int)) (by omega)
  unfold fc_rd
  generalize w - w / nI m * nI m = r at *
  by_cases h : 0 ≤ r
  · rw [if_pos h]
    obtain ⟨k, hk, ek⟩ := nI_of (x := r) (Int32.not_lt.mpr h)
    refine ⟨k, ?_, ek⟩
    rw [ek, nI_toInt hk] at e
    omega
  · rw [if_neg h]
    rw [Int32.le_iff_toInt_le, show (0 : Int32).toInt = 0 from by decide] at h
    refine ⟨(r.toInt + m).toNat, by omega, Int32.toInt_inj.mp ?_⟩
    rw [Int32.toInt_add, nI_toInt (n := m) (by omega), nI_toInt (by omega), Int.bmod_eq_of_le (by omega) (by omega)]
    omega
end FEXP
end
section
section FGR
/-! counting -/
noncomputable def fg_cn (P : Nat → Prop) : Nat → Nat
  | 0 => 0
  | n + 1 => fg_cn P n + @ite _ (P n) (Classical.propDecidable _) 1 0
theorem fg_cn_t {P : Nat → Prop} {n : Nat} (h : P n) : fg_cn P (n + 1) = fg_cn P n + 1 := by
  show _ + @ite _ (P n) (Classical.propDecidable _) 1 0 = _
  rw [if_pos h]
theorem fg_cn_f {P : Nat → Prop} {n : Nat} (h : ¬ P n) : fg_cn P (n + 1) = fg_cn P n := by
  show _ + @ite _ (P n) (Classical.propDecidable _) 1 0 = _
  rw [if_neg h]; rfl
theorem fg_cn_le (P : Nat → Prop) : ∀ n, fg_cn P n ≤ n := by
  intro n
  induction n with
  | zero => exact Nat.le_refl _
  | succ n ih =>
    by_cases h : P n
    · rw [fg_cn_t h]; omega
    · rw [fg_cn_f h]; omega
theorem fg_cn_mo {P Q : Nat → Prop} : ∀ n, (∀ s, s < n → P s → Q s) → fg_cn P n ≤ fg_cn Q n := by
  intro n
  induction n with
  | zero => intro _; exact Nat.le_refl _
  | succ n ih =>
    intro h
    have k := ih (fun s hs => h s (by omega))
    by_cases hp : P n
    · rw [fg_cn_t hp, fg_cn_t (h n (by omega) hp)]; omega
    · rw [fg_cn_f hp]
      by_cases hq : Q n
      · rw [fg_cn_t hq]; omega
      · rw [fg_cn_f hq]; omega
theorem fg_cn_lt {P Q : Nat → Prop} : ∀ n, (∀ s, s < n → P s → Q s) → (∃ s, s < n ∧ Q s ∧ ¬ P s) → fg_cn P n < fg_cn Q n := by
  intro n
  induction n with
  | zero => intro _ ⟨s, hs, _⟩; omega
  | succ n ih =>
    intro h ⟨s, hs, hq, hp⟩
    have h' : ∀ s, s < n → P s → Q s := fun s hs => h s (by omega)
    by_cases e : s = n
    · subst e
      rw [fg_cn_f hp, fg_cn_t hq]
      have := fg_cn_mo s h'
      omega
    · have k := ih h' ⟨s, by omega, hq, hp⟩
      by_cases hp : P n
      · rw [fg_cn_t hp, fg_cn_t (h n (by omega) hp)]; omega
      · rw [fg_cn_f hp]
        by_cases hq : Q n
        · rw [fg_cn_t hq]; omega
        · rw [fg_cn_f hq]; omega
/-! depths -/
def fg_R (N : Nat) (I0 : Nat → Prop) (st : Nat → Nat → Prop) : Nat → Nat → Prop
  | 0, s => s < N ∧ I0 s
  | d + 1, s => fg_R N I0 st d s ∨ (s < N ∧ ∃ s', fg_R N I0 st d s' ∧ st s' s)
def fg_F (N : Nat) (I0 : Nat → Prop) (st : Nat → Nat → Prop) (d s : Nat) : Prop := fg_R N I0 st d s ∧ ∀ e, e < d → ¬ fg_R N I0 st e s
variable {N : Nat} {I0 : Nat → Prop} {st : Nat → Nat → Prop}
theorem fg_Rlt : ∀ {d s : Nat}, fg_R N I0 st d s → s < N := by
  intro d
  induction d with
  | zero => intro s h; exact h.1
  | succ d ih =>
    intro s h
    rcases h with h | h
    · exact ih h
    · exact h.1
theorem fg_Rup {d s : Nat} : ∀ {e : Nat}, d ≤ e → fg_R N I0 st d s → fg_R N I0 st e s := by
  intro e
  induction e with
  | zero => intro h r; rw [show d = 0 by omega] at r; exact r
  | succ e ih =>
    intro h r
    by_cases k : d = e + 1
    · rw [← k]; exact r
    · exact Or.inl (ih (by omega) r)
theorem fg_Fp {d s : Nat} (h : fg_F N I0 st (d + 1) s) : ∃ s', fg_F N I0 st d s' ∧ st s' s := by
  rcases h.1 with r | ⟨hs, s', r, e⟩
  · exact absurd r (h.2 d (by omega))
  · refine ⟨s', ⟨r, fun k hk rk => ?_⟩, e⟩
    have : fg_R N I0 st (k + 1) s := Or.inr ⟨hs, s', rk, e⟩
    exact h.2 d (by omega) (fg_Rup (by omega) this)
theorem fg_Fo {d s : Nat} (h : fg_R N I0 st d s) : ∃ e, e ≤ d ∧ fg_F N I0 st e s := by
  obtain ⟨k, hk, hl⟩ := pk_least (fun e => fg_R N I0 st e s) ⟨d, h⟩
  refine ⟨k, ?_, hk, hl⟩
  rcases Nat.lt_or_ge d k with z | z
  · exact absurd h (hl d z)
  · exact z
theorem fg_Fu {d e s : Nat} (h : fg_F N I0 st d s) (k : fg_F N I0 st e s) : d = e := by
  rcases Nat.lt_trichotomy d e with z | z | z
  · exact absurd h.1 (k.2 d z)
  · exact z
  · exact absurd k.1 (h.2 e z)
theorem fg_Flt {d s : Nat} (h : fg_F N I0 st d s) : s < N := fg_Rlt h.1
theorem fg_Fc : ∀ d s, fg_F N I0 st d s → d + 1 ≤ fg_cn (fg_R N I0 st d) N := by
  intro d
  induction d with
  | zero =>
    intro s h
    have := fg_cn_lt (P := fun _ => False) (Q := fg_R N I0 st 0) N (fun _ _ z => z.elim) ⟨s, fg_Rlt h.1, h.1, fun z => z⟩
    omega
  | succ d ih =>
    intro s h
    obtain ⟨s', h', _⟩ := fg_Fp h
    have k := ih s' h'
    have := fg_cn_lt (P := fg_R N I0 st d) (Q := fg_R N I0 st (d + 1)) N (fun _ _ z => Or.inl z) ⟨s, fg_Rlt h.1, h.1, h.2 d (by omega)⟩
    omega
theorem fg_Fb {d s : Nat} (h : fg_F N I0 st d s) : d < N := by
  have := fg_Fc d s h
  have := fg_cn_le (fg_R N I0 st d) N
  omega
theorem fg_no {d : Nat} (h : ∀ s, ¬ fg_F N I0 st d s) : ∀ k s, ¬ fg_F N I0 st (d + k) s := by
  intro k
  induction k with
  | zero => exact h
  | succ k ih =>
    intro s z
    obtain ⟨s', h', _⟩ := fg_Fp z
    exact ih s' h'
def fg_D (N : Nat) (I0 : Nat → Prop) (st : Nat → Nat → Prop) (dp : Nat → Int32) : Prop :=
  ∀ s, s < N → (∃ d, d < N ∧ dp s = nI d ∧ fg_F N I0 st d s) ∨ (dp s = -1 ∧ ∀ d, ¬ fg_R N I0 st d s)
theorem fg_Du {dp dq : Nat → Int32} (h : fg_D N I0 st dp) (k : fg_D N I0 st dq) {s : Nat} (hs : s < N) : dp s = dq s := by
  rcases h s hs with ⟨d, _, e, f⟩ | ⟨e, f⟩
  · rcases k s hs with ⟨d', _, e', f'⟩ | ⟨e', f'⟩
    · rw [e, e', fg_Fu f f']
    · exact absurd f.1 (f' d)
  · rcases k s hs with ⟨d', _, e', f'⟩ | ⟨e', f'⟩
    · exact absurd f'.1 (f d')
    · rw [e, e']
def fg_I (N : Nat) (I0 : Nat → Prop) (st : Nat → Nat → Prop) (d s0 : Nat) (dp : Nat → Int32) : Prop :=
  ∀ s, s < N → (∃ e, e ≤ d ∧ dp s = nI e ∧ fg_F N I0 st e s) ∨ (dp s = nI (d + 1) ∧ fg_F N I0 st (d + 1) s) ∨ (dp s = -1 ∧ ¬ fg_R N I0 st d s ∧ ∀ s', s' < s0 → fg_F N I0 st d s' → ¬ st s' s)
theorem fg_I0 {dp : Nat → Int32} (h : ∀ s, s < N → (I0 s ∧ dp s = 0) ∨ (¬ I0 s ∧ dp s = -1)) : fg_I N I0 st 0 0 dp := by
  intro s hs
  rcases h s hs with ⟨a, b⟩ | ⟨a, b⟩
  · exact Or.inl ⟨0, Nat.le_refl _, b, ⟨hs, a⟩, fun e he => absurd he (by omega)⟩
  · exact Or.inr (Or.inr ⟨b, fun r => a r.2, fun s' hs' => absurd hs' (by omega)⟩)
theorem fg_Ie {d s0 s : Nat} {dp : Nat → Int32} (hN : N < 2 ^ 30) (hd : d < 2 ^ 30) (h : fg_I N I0 st d s0 dp) (hs : s < N) (e : dp s = nI d) : fg_F N I0 st d s := by
  rcases h s hs with ⟨k, hk, ek, f⟩ | ⟨ek, f⟩ | ⟨ek, f⟩
  · rw [ek, nI_eq (by omega) (by omega)] at e
    rw [← e]; exact f
  · rw [ek, nI_eq (by omega) (by omega)] at e
    omega
  · rw [ek] at e
    exact absurd e.symm (fn_ne1 (by omega))
theorem fg_Ii {d s0 s : Nat} {dp : Nat → Int32} (h : fg_I N I0 st d s0 dp) (f : fg_F N I0 st d s) : dp s = nI d := by
  rcases h s (fg_Flt f) with ⟨k, hk, ek, g⟩ | ⟨ek, g⟩ | ⟨ek, g, _⟩
  · rw [ek, fg_Fu f g]
  · have := fg_Fu f g; omega
  · exact absurd f.1 g
def fg_dn (N : Nat) (st : Nat → Nat → Prop) (d s0 : Nat) (dp dq : Nat → Int32) : Prop :=
  ∀ t, t < N → (dp t = -1 ∧ st s0 t ∧ dq t = nI (d + 1)) ∨ (¬ (dp t = -1 ∧ st s0 t) ∧ dq t = dp t)
theorem fg_st {d s0 : Nat} {dp dq : Nat → Int32} (h : fg_I N I0 st d s0 dp) (f : fg_F N I0 st d s0) (k : fg_dn N st d s0 dp dq) (hd : d < 2 ^ 30) : fg_I N I0 st d (s0 + 1) dq := by
  intro s hs
  rcases k s hs with ⟨a, b, c⟩ | ⟨a, c⟩
  · rcases h s hs with ⟨k, hk, ek, g⟩ | ⟨ek, g⟩ | ⟨ek, g, g'⟩
    · rw [ek] at a; exact absurd a (fn_ne1 (by omega))
    · rw [ek] at a; exact absurd a (fn_ne1 (by omega))
    · refine Or.inr (Or.inl ⟨c, Or.inr ⟨hs, s0, f.1, b⟩, fun e he r => g (fg_Rup (by omega) r)⟩)
  · rcases h s hs with g | g | ⟨ek, g, g'⟩
    · rw [c]; exact Or.inl g
    · rw [c]; exact Or.inr (Or.inl g)
    · rw [c]
      refine Or.inr (Or.inr ⟨ek, g, fun s' hs' f' z => ?_⟩)
      by_cases e : s' = s0
      · subst e; exact a ⟨ek, z⟩
      · exact g' s' (by omega) f' z
theorem fg_sk {d s0 : Nat} {dp : Nat → Int32} (h : fg_I N I0 st d s0 dp) (e : ¬ dp s0 = nI d) : fg_I N I0 st d (s0 + 1) dp := by
  intro s hs
  rcases h s hs with g | g | ⟨ek, g, g'⟩
  · exact Or.inl g
  · exact Or.inr (Or.inl g)
  · refine Or.inr (Or.inr ⟨ek, g, fun s' hs' f' z => ?_⟩)
    by_cases k : s' = s0
    · subst k; exact e (fg_Ii h f')
    · exact g' s' (by omega) f' z
theorem fg_en {d : Nat} {dp : Nat → Int32} (h : fg_I N I0 st d N dp) : fg_I N I0 st (d + 1) 0 dp := by
  intro s hs
  rcases h s hs with ⟨k, hk, ek, g⟩ | ⟨ek, g⟩ | ⟨ek, g, g'⟩
  · exact Or.inl ⟨k, by omega, ek, g⟩
  · exact Or.inl ⟨d + 1, by omega, ek, g⟩
  · refine Or.inr (Or.inr ⟨ek, fun r => ?_, fun s' hs' => absurd hs' (by omega)⟩)
    rcases r with r | ⟨_, s', r, e⟩
    · exact g r
    · obtain ⟨k, hk, f⟩ := fg_Fo r
      by_cases z : k = d
      · subst z; exact g' s' (fg_Flt f) f e
      · have : fg_R N I0 st (k + 1) s := Or.inr ⟨hs, s', f.1, e⟩
        exact g (fg_Rup (by omega) this)
theorem fg_fY {d : Nat} {dp : Nat → Int32} (h : fg_I N I0 st d 0 dp) (no : ∀ s, ¬ fg_F N I0 st (d + 1) s) : fg_D N I0 st dp := by
  intro s hs
  rcases h s hs with ⟨k, hk, ek, g⟩ | ⟨ek, g⟩ | ⟨ek, g, g'⟩
  · exact Or.inl ⟨k, fg_Fb g, ek, g⟩
  · exact absurd g (no s)
  · refine Or.inr ⟨ek, fun e r => ?_⟩
    obtain ⟨k, hk, f⟩ := fg_Fo r
    rcases Nat.lt_or_ge d k with z | z
    · have := fg_no no (k - (d + 1)) s
      rw [show d + 1 + (k - (d + 1)) = k by omega] at this
      exact this f
    · exact g (fg_Rup z f.1)
theorem fg_fX {dp : Nat → Int32} (h : fg_I N I0 st N 0 dp) : fg_D N I0 st dp :=
  fg_fY h (fun s f => by have := fg_Fb f; omega)
theorem fg_Dd {dp : Nat → Int32} (hN : N < 2 ^ 30) (h : fg_D N I0 st dp) {d s : Nat} (hs : s < N) (hd : d < 2 ^ 30) : dp s = nI d ↔ fg_F N I0 st d s := by
  rcases h s hs with ⟨k, hk, ek, g⟩ | ⟨ek, g⟩
  · rw [ek, nI_eq (by omega) (by omega)]
    exact ⟨fun z => z ▸ g, fun z => fg_Fu g z⟩
  · rw [ek]
    exact ⟨fun z => absurd z.symm (fn_ne1 (by omega)), fun z => absurd z.1 (g d)⟩
/-! ways to a breach -/
def fg_w (N : Nat) (I0 : Nat → Prop) (st : Nat → Nat → Prop) (Br : Nat → Prop) (en : Nat) : Nat → Nat → Prop
  | 0, s => fg_F N I0 st en s ∧ Br s
  | j + 1, s => fg_F N I0 st (en - (j + 1)) s ∧ ∃ t, fg_w N I0 st Br en j t ∧ st s t
def fg_A (N : Nat) (I0 : Nat → Prop) (st : Nat → Nat → Prop) (Br : Nat → Prop) (en k s : Nat) : Prop := ∃ j, j + k ≤ en ∧ fg_w N I0 st Br en j s
variable {Br : Nat → Prop} {en : Nat}
theorem fg_wF {j s : Nat} (h : fg_w N I0 st Br en j s) : fg_F N I0 st (en - j) s := by
  cases j with
  | zero => exact h.1
  | succ j => exact h.1
theorem fg_Ae {s : Nat} : fg_A N I0 st Br en en s ↔ fg_F N I0 st en s ∧ Br s := by
  constructor
  · intro ⟨j, hj, h⟩
    rw [show j = 0 by omega] at h
    exact h
  · intro h; exact ⟨0, by omega, h⟩
theorem fg_Ak {k s : Nat} (hk : k < en) (f : fg_F N I0 st k s) : fg_A N I0 st Br en k s ↔ ∃ t, t < N ∧ fg_F N I0 st (k + 1) t ∧ fg_A N I0 st Br en (k + 1) t ∧ st s t := by
  constructor
  · intro ⟨j, hj, h⟩
    have e := fg_Fu (fg_wF h) f
    obtain ⟨i, rfl⟩ : ∃ i, j = i + 1 := ⟨j - 1, by omega⟩
    obtain ⟨_, t, ht, es⟩ := h
    have ft := fg_wF ht
    rw [show en - i = k + 1 by omega] at ft
    exact ⟨t, fg_Flt ft, ft, ⟨i, by omega, ht⟩, es⟩
  · intro ⟨t, _, ft, ⟨j, hj, h⟩, es⟩
    have e := fg_Fu (fg_wF h) ft
    refine ⟨j + 1, by omega, ?_, t, h, es⟩
    rw [show en - (j + 1) = k by omega]
    exact f
theorem fg_An {k s : Nat} (hk : k < en) (f : ¬ fg_F N I0 st k s) : fg_A N I0 st Br en k s ↔ fg_A N I0 st Br en (k + 1) s := by
  constructor
  · intro ⟨j, hj, h⟩
    refine ⟨j, ?_, h⟩
    rcases Nat.lt_or_ge (j + k) en with z | z
    · omega
    · have := fg_wF h
      rw [show en - j = k by omega] at this
      exact absurd this f
  · intro ⟨j, hj, h⟩; exact ⟨j, by omega, h⟩
theorem fg_A0 {k s : Nat} (f : fg_F N I0 st k s) : fg_A N I0 st Br en 0 s ↔ fg_A N I0 st Br en k s := by
  constructor
  · intro ⟨j, hj, h⟩
    have e := fg_Fu (fg_wF h) f
    exact ⟨j, by omega, h⟩
  · intro ⟨j, hj, h⟩; exact ⟨j, by omega, h⟩
theorem fg_wx (h : ∃ s, fg_F N I0 st en s ∧ Br s) : ∀ j, j ≤ en → ∃ s, fg_w N I0 st Br en j s := by
  intro j
  induction j with
  | zero => intro _; exact h
  | succ j ih =>
    intro hj
    obtain ⟨s, hs⟩ := ih (by omega)
    have f := fg_wF hs
    rw [show en - j = (en - (j + 1)) + 1 by omega] at f
    obtain ⟨s', f', e⟩ := fg_Fp f
    exact ⟨s', f', s, hs, e⟩
def fg_ls (P : Nat → Prop) (s : Nat) : Prop := P s ∧ ∀ t, t < s → ¬ P t
theorem fg_lsu {P : Nat → Prop} {s t : Nat} (h : fg_ls P s) (k : fg_ls P t) : s = t := by
  rcases Nat.lt_trichotomy s t with z | z | z
  · exact absurd h.1 (k.2 s z)
  · exact z
  · exact absurd k.1 (h.2 t z)
/-- the first state of a row, and the state behind state s at place k -/
def fg_t0 (N : Nat) (I0 : Nat → Prop) (st : Nat → Nat → Prop) (Br : Nat → Prop) (en s : Nat) : Prop := fg_ls (fun s => fg_F N I0 st 0 s ∧ fg_A N I0 st Br en 0 s) s
def fg_t1 (N : Nat) (I0 : Nat → Prop) (st : Nat → Nat → Prop) (Br : Nat → Prop) (en k s t : Nat) : Prop := fg_ls (fun t => fg_F N I0 st (k + 1) t ∧ fg_A N I0 st Br en 0 t ∧ st s t) t
def fg_tr (N : Nat) (I0 : Nat → Prop) (st : Nat → Nat → Prop) (Br : Nat → Prop) (en : Nat) (T : Nat → Nat) (m : Nat) : Prop := fg_t0 N I0 st Br en (T 0) ∧ ∀ k, k < m → fg_t1 N I0 st Br en k (T k) (T (k + 1))
theorem fg_tu {T U : Nat → Nat} {m : Nat} (h : fg_tr N I0 st Br en T m) (k : fg_tr N I0 st Br en U m) : ∀ i, i ≤ m → T i = U i := by
  intro i
  induction i with
  | zero => intro _; exact fg_lsu h.1 k.1
  | succ i ih =>
    intro hi
    have a := h.2 i (by omega)
    have b := k.2 i (by omega)
    rw [ih (by omega)] at a
    exact fg_lsu a b
end FGR
end
section
section FFA
/-! closure of steps within a set, by stages -/
def fw_W (N : Nat) (st : Nat → Nat → Prop) (A : Nat → Prop) : Nat → Nat → Nat → Prop
  | 0, s, t => s < N ∧ t < N ∧ A s ∧ A t ∧ (s = t ∨ st s t)
  | m + 1, s, t => fw_W N st A m s t ∨ (fw_W N st A m s m ∧ fw_W N st A m m t)
variable {N : Nat} {st : Nat → Nat → Prop} {A : Nat → Prop}
theorem fw_in : ∀ {m s t : Nat}, fw_W N st A m s t → s < N ∧ t < N ∧ A s ∧ A t := by
  intro m
  induction m with
  | zero => intro s t h; exact ⟨h.1, h.2.1, h.2.2.1, h.2.2.2.1⟩
  | succ m ih =>
    intro s t h
    rcases h with h | ⟨h, k⟩
    · exact ih h
    · exact ⟨(ih h).1, (ih k).2.1, (ih h).2.2.1, (ih k).2.2.2⟩
theorem fw_up {s t : Nat} : ∀ {m : Nat}, fw_W N st A 0 s t → fw_W N st A m s t := by
  intro m
  induction m with
  | zero => exact id
  | succ m ih => intro h; exact Or.inl (ih h)
theorem fw_tk : ∀ m k s t, k < m → fw_W N st A m s k → fw_W N st A m k t → fw_W N st A m s t := by
  intro m
  induction m with
  | zero => intro k s t h; omega
  | succ m ih =>
    intro k s t hk a b
    by_cases e : k = m
    · subst e
      have a' : fw_W N st A k s k := by
        rcases a with a | a
        · exact a
        · exact a.1
      have b' : fw_W N st A k k t := by
        rcases b with b | b
        · exact b
        · exact b.2
      exact Or.inr ⟨a', b'⟩
    · have hm : k < m := by omega
      rcases a with a | ⟨a, a'⟩
      · rcases b with b | ⟨b, b'⟩
        · exact Or.inl (ih k s t hm a b)
        · exact Or.inr ⟨ih k s m hm a b, b'⟩
      · rcases b with b | ⟨b, b'⟩
        · exact Or.inr ⟨a, ih k m t hm a' b⟩
        · exact Or.inr ⟨a, b'⟩
theorem fw_tr {s k t : Nat} (a : fw_W N st A N s k) (b : fw_W N st A N k t) : fw_W N st A N s t := fw_tk N k s t (fw_in a).2.1 a b
theorem fw_cl {B : Nat → Prop} (hB : ∀ s t, s < N → A s → A t → st s t → B t → B s) : ∀ m s t, fw_W N st A m s t → B t → B s := by
  intro m
  induction m with
  | zero =>
    intro s t ⟨h1, _, h3, h4, h⟩ b
    rcases h with rfl | h
    · exact b
    · exact hB s t h1 h3 h4 h b
  | succ m ih =>
    intro s t h b
    rcases h with h | ⟨h, k⟩
    · exact ih s t h b
    · exact ih s m h (ih m t k b)
def fw_g (N : Nat) (st : Nat → Nat → Prop) (A : Nat → Prop) (s t : Nat) : Prop := fw_W N st A N s t ∧ fw_W N st A N t s
theorem fw_gr {s : Nat} (hs : s < N) (h : A s) : fw_g N st A s s := ⟨fw_up ⟨hs, hs, h, h, Or.inl rfl⟩, fw_up ⟨hs, hs, h, h, Or.inl rfl⟩⟩
theorem fw_gs {s t : Nat} (h : fw_g N st A s t) : fw_g N st A t s := ⟨h.2, h.1⟩
theorem fw_gt {s t u : Nat} (h : fw_g N st A s t) (k : fw_g N st A t u) : fw_g N st A s u := ⟨fw_tr h.1 k.1, fw_tr k.2 h.2⟩
/-! homes -/
def fw_hm (N : Nat) (st : Nat → Nat → Prop) (A : Nat → Prop) (h : Nat → Nat) : Prop := ∀ s, s < N → h s ≤ s ∧ (h s = s ∨ fw_g N st A s (h s)) ∧ ∀ t, t < h s → ¬ fw_g N st A s t
theorem fw_h1 {h : Nat → Nat} (H : fw_hm N st A h) {s : Nat} (hs : s < N) (a : A s) : fw_g N st A s (h s) := by
  rcases (H s hs).2.1 with e | e
  · rw [e]; exact fw_gr hs a
  · exact e
theorem fw_h0 {h : Nat → Nat} (H : fw_hm N st A h) {s : Nat} (hs : s < N) (a : ¬ A s) : h s = s := by
  rcases (H s hs).2.1 with e | e
  · exact e
  · exact absurd (fw_in e.1).2.2.1 a
theorem fw_hl {h : Nat → Nat} (H : fw_hm N st A h) {s t : Nat} (hs : s < N) (a : A s) (g : fw_g N st A s t) : h s ≤ h t := by
  have ht := (fw_in g.1).2.1
  have at' := (fw_in g.1).2.2.2
  have k := fw_gt g (fw_h1 H ht at')
  rcases Nat.lt_or_ge (h t) (h s) with z | z
  · exact absurd k ((H s hs).2.2 _ z)
  · exact z
theorem fw_he {h : Nat → Nat} (H : fw_hm N st A h) {s t : Nat} (hs : s < N) (ht : t < N) (a : A s) : h t = h s ↔ fw_g N st A s t := by
  constructor
  · intro e
    have k := fw_h1 H hs a
    by_cases b : A t
    · have k2 := fw_h1 H ht b
      rw [e] at k2
      exact fw_gt k (fw_gs k2)
    · have e2 := fw_h0 H ht b
      rw [← e, e2] at k
      exact k
  · intro g
    have h1 := fw_hl H hs a g
    have h2 := fw_hl H ht (fw_in g.1).2.2.2 (fw_gs g)
    omega
/-! unfair states are taken away -/
def fw_un (N : Nat) (st : Nat → Nat → Prop) (M : Nat → Nat → Nat → Bool) (en : Nat → Nat → Bool) (ft : Nat → Nat) (A : Nat → Prop) (s : Nat) : Prop :=
  ∃ a, a < 4 ∧ ft a ≠ 0 ∧ en a s = true ∧ (ft a = 1 → ∀ t, t < N → fw_g N st A s t → en a t = true) ∧ ¬ ∃ x y, x < N ∧ y < N ∧ x ≠ y ∧ M a x y = true ∧ fw_g N st A s x ∧ fw_g N st A s y
def fw_nx (N : Nat) (st : Nat → Nat → Prop) (M : Nat → Nat → Nat → Bool) (en : Nat → Nat → Bool) (ft : Nat → Nat) (A : Nat → Prop) (s : Nat) : Prop := A s ∧ ¬ fw_un N st M en ft A s
def fw_it (N : Nat) (st : Nat → Nat → Prop) (M : Nat → Nat → Nat → Bool) (en : Nat → Nat → Bool) (ft : Nat → Nat) (C : Nat → Prop) : Nat → Nat → Prop
  | 0 => C
  | k + 1 => fw_nx N st M en ft (fw_it N st M en ft C k)
variable {M : Nat → Nat → Nat → Bool} {en : Nat → Nat → Bool} {ft : Nat → Nat} {C : Nat → Prop}
theorem fw_its : ∀ k s, fw_it N st M en ft C k s → C s := by
  intro k
  induction k with
  | zero => intro s h; exact h
  | succ k ih => intro s h; exact ih s h.1
theorem fw_fx {k : Nat} (hC : ∀ s, C s → s < N) (h : ∀ s, s < N → fw_it N st M en ft C k s → ¬ fw_un N st M en ft (fw_it N st M en ft C k) s) : ∀ j, fw_it N st M en ft C (k + j) = fw_it N st M en ft C k := by
  intro j
  induction j with
  | zero => rfl
  | succ j ih =>
    show fw_nx N st M en ft (fw_it N st M en ft C (k + j)) = _
    rw [ih]
    funext s
    apply propext
    exact ⟨fun z => z.1, fun z => ⟨z, h s (hC s (fw_its k s z)) z⟩⟩
theorem fw_ct {k : Nat} (h : ∃ s, s < N ∧ fw_it N st M en ft C k s ∧ fw_un N st M en ft (fw_it N st M en ft C k) s) : fg_cn (fw_it N st M en ft C (k + 1)) N < fg_cn (fw_it N st M en ft C k) N := by
  obtain ⟨s, hs, a, b⟩ := h
  exact fg_cn_lt N (fun s _ z => z.1) ⟨s, hs, a, fun z => z.2 b⟩
def fw_F (N : Nat) (st : Nat → Nat → Prop) (M : Nat → Nat → Nat → Bool) (en : Nat → Nat → Bool) (ft : Nat → Nat) (C : Nat → Prop) : Nat → Prop := fw_it N st M en ft C N
theorem fw_Fe {k : Nat} (hC : ∀ s, C s → s < N) (hk : k ≤ N) (h : ∀ s, s < N → fw_it N st M en ft C k s → ¬ fw_un N st M en ft (fw_it N st M en ft C k) s) : fw_it N st M en ft C k = fw_F N st M en ft C := by
  have := fw_fx hC h (N - k)
  rw [show k + (N - k) = N by omega] at this
  exact this.symm
/-- the states from which a calm way leads to a state of F -/
def fw_cm (N : Nat) (st : Nat → Nat → Prop) (C F : Nat → Prop) (s : Nat) : Prop := C s ∧ ∃ t, t < N ∧ F t ∧ fw_W N st C N s t
theorem fw_ce {B F : Nat → Prop} (hC : ∀ s, C s → s < N) (hF : ∀ s, F s → C s) (h1 : ∀ s, F s → B s) (h2 : ∀ s, B s → fw_cm N st C F s) (h3 : ∀ s, s < N → C s → (∃ t, B t ∧ st s t) → B s) (s : Nat) : B s ↔ fw_cm N st C F s := by
  constructor
  · exact h2 s
  · intro ⟨c, t, ht, f, w⟩
    exact fw_cl (fun a b ha hA hb e k => h3 a ha hA ⟨b, k, e⟩) N s t w (h1 t f)
theorem fw_c0 {F : Nat → Prop} (hC : ∀ s, C s → s < N) (hF : ∀ s, F s → C s) {s : Nat} (h : F s) : fw_cm N st C F s :=
  ⟨hF s h, s, hC s (hF s h), h, (fw_gr (hC s (hF s h)) (hF s h)).1⟩
theorem fw_c1 {F : Nat → Prop} {s t : Nat} (hs : s < N) (ht : t < N) (h : C s) (e : st s t) (k : fw_cm N st C F t) : fw_cm N st C F s := by
  obtain ⟨c, u, hu, f, w⟩ := k
  exact ⟨h, u, hu, f, fw_tr (fw_up ⟨hs, ht, h, c, Or.inr e⟩) w⟩
end FFA
end
section
section FXB
variable {tl fc : Int32} {sz tk ln an fa sk lw hg mv en dp ca rc : Nat → Int32} {re : Nat → Int64} {ho ae ta ow ts fs : Nat → Int32}
theorem fn_ms {m : Nat} (a : Nat) (h : 0 < m) : nI m + (nI a - 1) = nI (m + a - 1) := by
  obtain ⟨k, rfl⟩ : ∃ k, m = k + 1 := ⟨m - 1, by omega⟩
  rw [← nI_1, show k + 1 + a - 1 = k + a by omega, ← nI_add]
  grind
theorem fc_a0 {c : Nat} (h : c < 20) : fc_a c = 0 := if_pos h
theorem fc_a2 {c : Nat} (h : ¬ c < 20) (h27 : c ≠ 27) (h28 : c ≠ 28) : fc_a c = 2 := by
  unfold fc_a; rw [if_neg h, if_neg h27, if_neg h28]
theorem fx_op {post : Int32 → Prop} {c : Nat} (hc : c < 100) (h : post (nI (fc_a c))) : wpX_operands post (tl, fc, sz, tk, ln, an, fa, sk, lw, hg, mv, en, dp, ca, rc, re, ho, ae, ta, ow, ts, fs) (nI c) := by
  refine pk_le 20 c (fun h1 => pk_eq c 27 (fun h2 => ?_) (fun h2 => pk_eq c 28 (fun h3 => ?_) (fun h3 => ?_))) (fun h1 => ?_)
  · subst h2; exact h
  · subst h3; exact h
  · rw [fc_a2 (by omega) h2 h3] at h; exact h
  · rw [fc_a0 (by omega)] at h; exact h
theorem fc_T0 (tk : Nat → Int32) (i : Nat) : fc_T tk 0 i = (tk i).toNatClampNeg := by
  unfold fc_T; rw [Nat.zero_mul, Nat.zero_add]
theorem fc_sh0 {tk ln : Nat → Int32} (h : fc_sh tk ln 0) {i : Nat} (hi : i < fc_L ln 0) : tk i = nI (fc_T tk 0 i) ∧ fc_nc (fc_T tk 0 i) := by
  have := h.2.2 i hi
  rw [Nat.zero_mul, Nat.zero_add] at this
  rw [fc_T0]
  exact fc_nmc this
theorem fc_nc100 {c : Nat} (h : fc_nc c) : c < 100 := by unfold fc_nc at h; omega
theorem fx_di {post : Int32 → Prop} (hs : fc_sh tk ln 0) (h1 : fc_ex (fc_T tk 0) (fc_L ln 0) → post 1) (h0 : ¬ fc_ex (fc_T tk 0) (fc_L ln 0) → post 0) : wpX_draftIsExpression post (tl, fc, sz, tk, ln, an, fa, sk, lw, hg, mv, en, dp, ca, rc, re, ho, ae, ta, ow, ts, fs) := by
  have key : ∀ d i, i + d = fc_L ln 0 → (∀ j, j < i → 0 < fc_ms (fc_T tk 0) j) → wX_draftIsExpression_4 post tl fc sz tk ln an fa sk lw hg mv en dp ca rc re ho ae ta ow ts fs (d + 1) (nI (fc_ms (fc_T tk 0) i)) (nI i) := by
    intro d
    induction d with
    | zero =>
      intro i hi hm
      have hb := fc_ms_up (fc_T tk 0) i
      have h12 := hs.2.1
      refine pk_le (fc_L ln 0) i (fun _ => pk_eq (fc_ms (fc_T tk 0) i) 0 (fun e => h1 ?_) (fun e => h0 ?_)) (fun z => absurd z (by omega)) hs.1
      · rw [← (show i = fc_L ln 0 by omega)]; exact ⟨hm, e⟩
      · rw [← (show i = fc_L ln 0 by omega)]; exact fun z => e z.2
    | succ d ih =>
      intro i hi hm
      have hb := fc_ms_up (fc_T tk 0) i
      have h12 := hs.2.1
      refine pk_le (fc_L ln 0) i (fun z => absurd z (by omega)) (fun z => pk_eq (fc_ms (fc_T tk 0) i) 0 (fun e => h0 ?_) (fun e => ?_)) hs.1
      · intro k; have := k.1 i (by omega); omega
      · obtain ⟨ht, hc⟩ := fc_sh0 hs (i := i) (by omega)
        have hx : (0 : Int32) + nI i = nI i := Int32.zero_add _
        refine ⟨by rw [hx]; exact vp_in_nI (by omega) (by omega), ?_⟩
        rw [hx, nI_clamp (by omega), ht]
        refine fx_op (fc_nc100 hc) (fun y ey z ez => ?_)
        rw [ey, ez, fn_ms _ (by omega), nI_1]
        exact ih (i + 1) (by omega) (fun j hj => by
          by_cases e : j = i
          · subst e; omega
          · exact hm j (by omega))
  exact ⟨fc_L ln 0 + 1, key (fc_L ln 0) 0 (by omega) (fun j hj => absurd hj (by omega))⟩
theorem fx_de {post : Int32 → Prop} (hs : fc_sh tk ln 0) (h1 : (fc_L ln 0 = 0 ∨ fc_ex (fc_T tk 0) (fc_L ln 0)) → post 1) (h0 : ¬ (fc_L ln 0 = 0 ∨ fc_ex (fc_T tk 0) (fc_L ln 0)) → post 0) : wpX_draftIsExpressionOrEmpty post (tl, fc, sz, tk, ln, an, fa, sk, lw, hg, mv, en, dp, ca, rc, re, ho, ae, ta, ow, ts, fs) := by
  have h12 := hs.2.1
  refine pk_eq (fc_L ln 0) 0 (fun e => h1 (Or.inl e)) (fun e => ?_) hs.1
  refine fx_di hs (fun k => ?_) (fun k => ?_)
  · exact br_f (by decide) (h1 (Or.inr k))
  · exact br_t rfl (h0 (fun z => z.elim e k))
theorem fx_ud0 {post : Int32 → SX → Prop} {x : Int32} (h : post 0 (tl, fc, sz, tk, upd ln 0 0, an, fa, sk, lw, hg, mv, en, dp, ca, rc, re, ho, ae, ta, ow, ts, fs)) : wpX_useDraft post (tl, fc, sz, tk, ln, an, fa, sk, lw, hg, mv, en, dp, ca, rc, re, ho, ae, ta, ow, ts, fs) x 0 :=
  br_t rfl (nm_e ⟨fn_n0, h⟩)
def fc_cp (tk tq : Nat → Int32) (j n : Nat) : Prop := (∀ k, k < n → tq (j * 12 + k) = tk k) ∧ ∀ m, (m < j * 12 ∨ j * 12 + n ≤ m) → tq m = tk m
theorem fc_cps {tk tq : Nat → Int32} {j n : Nat} (hj : 1 ≤ j) (hn : n < 12) (h : fc_cp tk tq j n) : fc_cp tk (upd tq (j * 12 + n) (tq n)) j (n + 1) := by
  refine ⟨fun k hk => ?_, fun m hm => ?_⟩
  · by_cases e : k = n
    · subst e; rw [pk_us]; exact h.2 _ (by omega)
    · rw [pk_un (by omega)]; exact h.1 k (by omega)
  · rw [pk_un (by omega)]; exact h.2 m (by omega)
theorem fx_ud1 {post : Int32 → SX → Prop} {j : Nat} (hj : 1 ≤ j) (hj2 : j < 19) (hs : fc_sh tk ln 0) (h : ∀ tq, fc_cp tk tq j (fc_L ln 0) → post 1 (tl, fc, sz, tq, upd (upd ln j (ln 0)) 0 0, an, fa, sk, lw, hg, mv, en, dp, ca, rc, re, ho, ae, ta, ow, ts, fs)) : wpX_useDraft post (tl, fc, sz, tk, ln, an, fa, sk, lw, hg, mv, en, dp, ca, rc, re, ho, ae, ta, ow, ts, fs) (nI j) 1 := by
  have h12 := hs.2.1
  refine br_f (by decide) ?_
  refine pk_loop (fun n i t => wX_useDraft_6 post (nI j) 1 tl fc n (nI i) sz t ln an fa sk lw hg mv en dp ca rc re ho ae ta ow ts fs) (fun i t => fc_cp tk t j i) (fc_L ln 0) 0 tk (by omega) ⟨fun k hk => absurd hk (by omega), fun m _ => rfl⟩ (fun n t ht => ?_) (fun n i t hi ht k => ?_)
  · refine pk_le (fc_L ln 0) (fc_L ln 0) (fun _ => ?_) (fun z => absurd z (by omega)) hs.1
    refine ⟨vp_in_nI hj2 (by omega), ?_⟩
    rw [nI_clamp (by omega)]
    exact nm_e (nm_e ⟨fn_n1, h t ht⟩)
  · refine pk_le (fc_L ln 0) i (fun z => absurd z (by omega)) (fun z => ?_) hs.1
    have hx : (0 : Int32) + nI i = nI i := Int32.zero_add _
    have hy : nI j * 12 + nI i = nI (j * 12 + i) := by
      rw [← nI_add, ← pk_mul]; rfl
    refine ⟨by rw [hx]; exact vp_in_nI (by omega) (by omega), ?_⟩
    rw [hx, hy]
    refine ⟨vp_in_nI (by omega) (by omega), ?_⟩
    rw [nI_clamp (by omega), nI_clamp (by omega)]
    refine nm_e (nm_r (nI_1 i) ?_)
    exact k _ (fc_cps hj (by omega) ht)
theorem fx_it {post : Int32 → Prop} {a : Nat} (ha : a < 4) (hs : ln (3 + a) = nI (fc_L ln (3 + a))) (hb : fc_L ln (3 + a) ≤ 12) (h1 : fc_L ln (3 + a) ≠ 0 → post 1) (h0 : fc_L ln (3 + a) = 0 → post 0) : wpX_isThere post (tl, fc, sz, tk, ln, an, fa, sk, lw, hg, mv, en, dp, ca, rc, re, ho, ae, ta, ow, ts, fs) (nI a) := by
  refine pk_lt a 0 (fun z => absurd z (by omega)) (fun _ => pk_le 4 a (fun z => absurd z (by omega)) (fun _ => ?_))
  have hx : 3 + nI a = nI (3 + a) := by rw [← nI_add]; rfl
  rw [hx, nI_clamp (by omega)]
  refine ⟨vp_in_nI (by omega) (by omega), ?_⟩
  exact pk_le (fc_L ln (3 + a)) 0 (fun z => h0 (by omega)) (fun z => h1 (by omega)) hs
theorem fx_itn {post : Int32 → Prop} {x : Int32} (hx : x < 0 ∨ nI 4 ≤ x) (h0 : post 0) : wpX_isThere post (tl, fc, sz, tk, ln, an, fa, sk, lw, hg, mv, en, dp, ca, rc, re, ho, ae, ta, ow, ts, fs) x := by
  by_cases z : x < 0
  · exact br_t z h0
  · exact br_f z (br_t (hx.resolve_left z) h0)
theorem fx_ns {post : Int32 → Prop} (hz : fc_Z sz) (h : post (nI (fc_N sz))) : wpX_numberOfStates post (tl, fc, sz, tk, ln, an, fa, sk, lw, hg, mv, en, dp, ca, rc, re, ho, ae, ta, ow, ts, fs) := by
  show post (sz 0 * sz 1 * sz 2)
  rw [fc_Nn hz]; exact h
theorem fx_vs {post : Int32 → Prop} (hz : fc_Z sz) {v u r n : Nat} (hr : r < 2 ^ 31) (huv : u < v) (hv : v < 3) (h : wX_valueIn_5 post (nI v) tl fc sz tk ln an fa sk lw hg mv en dp ca rc re ho ae ta ow ts fs n (nI (r / fc_z sz u)) (nI (u + 1))) : wX_valueIn_5 post (nI v) tl fc sz tk ln an fa sk lw hg mv en dp ca rc re ho ae ta ow ts fs (n + 1) (nI r) (nI u) := by
  refine pk_le v u (fun z => absurd z (by omega)) (fun _ => ?_)
  refine ⟨vp_in_nI (by omega) (by omega), ?_⟩
  have hu := hz u (by omega)
  rw [nI_clamp (by omega)]
  have h0 : ¬ sz u = 0 := by rw [hu.1]; exact nI_ne0 (by omega) (by omega)
  refine ⟨h0, nm_r (e' := nI (r / fc_z sz u)) ?_ (nm_r (nI_1 u) h)⟩
  rw [hu.1, pk_div hr (by omega) (by omega)]
theorem fx_vx {post : Int32 → Prop} (hz : fc_Z sz) {v r n : Nat} (hr : r < 2 ^ 31) (hv : v < 3) (h : post (nI (r % fc_z sz v))) : wX_valueIn_5 post (nI v) tl fc sz tk ln an fa sk lw hg mv en dp ca rc re ho ae ta ow ts fs (n + 1) (nI r) (nI v) := by
  refine pk_le v v (fun _ => ?_) (fun z => absurd z (by omega))
  refine ⟨vp_in_nI (by omega) (by omega), ?_⟩
  have hu := hz v (by omega)
  rw [nI_clamp (by omega)]
  have h0 : ¬ sz v = 0 := by rw [hu.1]; exact nI_ne0 (by omega) (by omega)
  refine ⟨h0, ?_⟩
  have e : nI r - nI r / sz v * sz v = nI (r % fc_z sz v) := by
    rw [hu.1, pk_rem hr (by omega) (by omega)]
  rw [e]; exact h
theorem fx_vi {post : Int32 → Prop} (hz : fc_Z sz) {s v : Nat} (hs : s < 2 ^ 31) (hv : v < 3) (h : post (nI (fc_v sz s v))) : wpX_valueIn post (tl, fc, sz, tk, ln, an, fa, sk, lw, hg, mv, en, dp, ca, rc, re, ho, ae, ta, ow, ts, fs) (nI s) (nI v) := by
  have k1 : s / fc_z sz 0 < 2 ^ 31 := Nat.lt_of_le_of_lt (Nat.div_le_self _ _) hs
  have k2 : s / fc_z sz 0 / fc_z sz 1 < 2 ^ 31 := Nat.lt_of_le_of_lt (Nat.div_le_self _ _) k1
  rcases (show v = 0 ∨ v = 1 ∨ v = 2 by omega) with rfl | rfl | rfl
  · exact ⟨1, fx_vx hz hs (by omega) h⟩
  · exact ⟨2, fx_vs hz hs (u := 0) (by omega) (by omega) (fx_vx hz k1 (by omega) h)⟩
  · exact ⟨3, fx_vs hz hs (u := 0) (by omega) (by omega) (fx_vs hz k1 (u := 1) (by omega) (by omega) (fx_vx hz k2 (by omega) h))⟩
theorem fx_cb {post : Int32 → Prop} {c : Nat} {x y : Int32} (hc : 20 ≤ c) (hc2 : c ≤ 26) (h : post (fc_bin c x y)) : wpX_combine post (tl, fc, sz, tk, ln, an, fa, sk, lw, hg, mv, en, dp, ca, rc, re, ho, ae, ta, ow, ts, fs) (nI c) x y := by
  refine pk_lt c 20 (fun z => absurd z (by omega)) (fun _ => pk_lt 26 c (fun z => absurd z (by omega)) (fun _ => ?_))
  refine pk_eq c 20 (fun e => ?_) (fun e20 => pk_eq c 21 (fun e => ?_) (fun e21 => pk_eq c 22 (fun e => ?_) (fun e22 => pk_eq c 23 (fun e => ?_) (fun e23 => pk_eq c 24 (fun e => ?_) (fun e24 => pk_eq c 25 (fun e => ?_) (fun e25 => pk_eq c 26 (fun e => ?_) (fun e26 => absurd hc2 (by omega))))))))
  · subst e; exact h
  · subst e; exact h
  · subst e; exact h
  · subst e
    have h : post (if x = y then 1 else 0) := h
    exact br_c (fun z => by rw [if_pos z] at h; exact h) (fun z => by rw [if_neg z] at h; exact h)
  · subst e
    have h : post (if y ≤ x then 0 else 1) := h
    exact br_c (fun z => by rw [if_pos z] at h; exact h) (fun z => by rw [if_neg z] at h; exact h)
  · subst e
    have h : post (if x = 0 then 0 else if y = 0 then 0 else 1) := h
    exact br_c (fun z => by rw [if_pos z] at h; exact h) (fun z => br_c (fun w => by rw [if_neg z, if_pos w] at h; exact h) (fun w => by rw [if_neg z, if_neg w] at h; exact h))
  · subst e
    have h : post (if x = 0 then (if y = 0 then 0 else 1) else 1) := h
    exact br_c (fun z => br_c (fun w => by rw [if_pos z, if_pos w] at h; exact h) (fun w => by rw [if_pos z, if_neg w] at h; exact h)) (fun z => by rw [if_neg z] at h; exact h)
end FXB
end
section
section FXW
variable {tl fc : Int32} {sz tk ln an fa sk lw hg mv en dp ca rc : Nat → Int32} {re : Nat → Int64} {ho ae ta ow ts fs : Nat → Int32}
theorem fc_opn {c : Nat} (vl : Nat → Int32) (l : List Int32) (h : c ≤ 4) : fc_op c vl l = nI c :: l := if_pos (by omega)
theorem fc_opv {c : Nat} (vl : Nat → Int32) (l : List Int32) (h : 10 ≤ c) (h2 : c ≤ 12) : fc_op c vl l = vl (c - 10) :: l := by
  unfold fc_op; rw [if_neg (by omega), if_pos (by omega)]
theorem fc_op1 {c : Nat} (vl : Nat → Int32) (x : Int32) (r : List Int32) (h : c = 27) : fc_op c vl (x :: r) = (if x = 0 then 1 else 0) :: r := by
  subst h; rfl
theorem fc_op3 {c : Nat} (vl : Nat → Int32) (x y z : Int32) (r : List Int32) (h : c = 28) : fc_op c vl (x :: y :: z :: r) = (if x = 0 then z else y) :: r := by
  subst h; rfl
theorem fc_op2 {c : Nat} (vl : Nat → Int32) (x y : Int32) (r : List Int32) (h : 20 ≤ c) (h1 : c ≠ 27) (h2 : c ≠ 28) : fc_op c vl (x :: y :: r) = fc_bin c x y :: r := by
  unfold fc_op; rw [if_neg (by omega), if_neg (by omega), if_neg h1, if_neg h2]; rfl
theorem fc_l1 {l : List Int32} (h : 1 ≤ l.length) : ∃ x r, l = x :: r := by
  cases l with
  | nil => simp at h
  | cons x r => exact ⟨x, r, rfl⟩
theorem fc_l2 {l : List Int32} (h : 2 ≤ l.length) : ∃ x y r, l = x :: y :: r := by
  obtain ⟨x, r, rfl⟩ := fc_l1 (by omega : 1 ≤ l.length)
  obtain ⟨y, q, rfl⟩ := fc_l1 (l := r) (by simp at h; omega)
  exact ⟨x, y, q, rfl⟩
theorem fc_l3 {l : List Int32} (h : 3 ≤ l.length) : ∃ x y z r, l = x :: y :: z :: r := by
  obtain ⟨x, y, r, rfl⟩ := fc_l2 (by omega : 2 ≤ l.length)
  obtain ⟨z, q, rfl⟩ := fc_l1 (l := r) (by simp at h; omega)
  exact ⟨x, y, z, q, rfl⟩
theorem fx_w12 {post : Int32 → SX → Prop} (hz : fc_Z sz) {j s : Nat} (hj : j < 19) (hs : s < 2 ^ 31) (ok : fc_ok tk ln j)
    (hp : ∀ sk', post (fc_w sz tk ln j s) (tl, fc, sz, tk, ln, an, fa, sk', lw, hg, mv, en, dp, ca, rc, re, ho, ae, ta, ow, ts, fs)) : ∀ i, i ≤ fc_L ln j → ∀ (l : List Int32) (sk : Nat → Int32) (n : Nat), l.length = fc_ms (fc_T tk j) i → fc_SK sk l →
    fc_run (fc_T tk j) (fun v => nI (fc_v sz s v)) i l = fc_w sz tk ln j s → i < n → wX_work_12 post (nI j) (nI s) tl fc n (nI l.length) (nI i + (-1)) sz tk ln an fa sk lw hg mv en dp ca rc re ho ae ta ow ts fs := by
  intro i
  have hL := ok.1.2.1
  induction i with
  | zero =>
    intro _ l sk n hl hk hv hn
    obtain ⟨n, rfl⟩ : ∃ m, n = m + 1 := ⟨n - 1, by omega⟩
    obtain ⟨x, r, rfl⟩ := fc_l1 (l := l) (by rw [hl]; exact Nat.le_refl _)
    have hr : r.length = 0 := by
      have : (x :: r).length = 1 := hl
      simp at this; simp [this]
    refine br_t (by decide) ?_
    have h0 : sk 0 = fc_w sz tk ln j s := by
      rw [← hv]
      have := hk.1
      rw [hr] at this
      exact this
    rw [h0]
    exact hp sk
  | succ i ih =>
    intro hi l sk n hl hk hv hn
    obtain ⟨n, rfl⟩ : ∃ m, n = m + 1 := ⟨n - 1, by omega⟩
    rw [pk_m1]
    have hd := fc_ms_dn ok.2 (fc_L ln j - i) i (by omega)
    have hd1 := fc_ms_dn ok.2 (fc_L ln j - (i + 1)) (i + 1) (by omega)
    have hm0 := ok.2.1 i (by omega)
    have hms : fc_ms (fc_T tk j) (i + 1) = fc_ms (fc_T tk j) i + fc_a (fc_T tk j i) - 1 := rfl
    obtain ⟨ht, hc⟩ := fc_nmc (ok.1.2.2 i (by omega))
    have ht : tk (j * 12 + i) = nI (fc_T tk j i) := ht
    have hc : fc_nc (fc_T tk j i) := hc
    have hc100 := fc_nc100 hc
    have hv : fc_run (fc_T tk j) (fun v => nI (fc_v sz s v)) i (fc_op (fc_T tk j i) (fun v => nI (fc_v sz s v)) l) = fc_w sz tk ln j s := hv
    have hy : nI j * 12 + nI i = nI (j * 12 + i) := by
      rw [← nI_add, ← pk_mul]; rfl
    generalize fc_T tk j i = c at *
    have fin : ∀ (r : List Int32) (val : Int32), fc_SK sk r → r.length + 1 = fc_ms (fc_T tk j) i → fc_run (fc_T tk j) (fun v => nI (fc_v sz s v)) i (val :: r) = fc_w sz tk ln j s →
        vp_in (nI r.length) 12 ∧ (∀ st, st = upd sk (nI r.length).toNatClampNeg val → ∀ x3', x3' = nI r.length + 1 → ∀ x4', x4' = nI i + (-1) → wX_work_12 post (nI j) (nI s) tl fc n x3' x4' sz tk ln an fa st lw hg mv en dp ca rc re ho ae ta ow ts fs) := by
      intro r val hr hrl hrv
      refine ⟨vp_in_nI (by omega) (by omega), ?_⟩
      rw [nI_clamp (by omega)]
      refine nm_e (nm_r (nI_1 _) (nm_e ?_))
      exact ih (by omega) (val :: r) _ n hrl (fc_SKc hr) hrv (by omega)
    refine br_f (nI_pos (by omega)) ?_
    rw [hy]
    refine ⟨vp_in_nI (by omega) (by omega), ?_⟩
    rw [nI_clamp (by omega), ht]
    refine nm_e (fx_op hc100 ?_)
    intro x3 e3
    refine pk_lt 4 c (fun h4 => pk_lt 12 c (fun h12 => ?_) (fun h12 => ?_)) (fun h4 => ?_)
    · have h20 : 20 ≤ c := by unfold fc_nc at hc; omega
      refine pk_eq c 27 (fun h27 => ?_) (fun h27 => pk_eq c 28 (fun h28 => ?_) (fun h28 => ?_))
      · have ha : fc_a c = 1 := by subst h27; rfl
        obtain ⟨x, r, rfl⟩ := fc_l1 (l := l) (by omega)
        have hrl : (x :: r).length = r.length + 1 := rfl
        have e3 : x3 = nI r.length := by rw [e3, ha, pk_sub (by omega), hrl, Nat.add_sub_cancel]
        rw [fc_op1 _ _ _ h27] at hv
        rw [e3]
        refine ⟨vp_in_nI (by omega) (by omega), ?_⟩
        have hx : sk (nI r.length).toNatClampNeg = x := by rw [nI_clamp (by omega)]; exact hk.1
        rw [hx]
        refine br_c (fun z => ?_) (fun z => ?_)
        · rw [if_pos z] at hv
          exact fin r 1 hk.2 (by omega) hv
        · rw [if_neg z] at hv
          exact fin r 0 hk.2 (by omega) hv
      · have ha : fc_a c = 3 := by subst h28; rfl
        obtain ⟨x, y, w, r, rfl⟩ := fc_l3 (l := l) (by omega)
        have hrl : (x :: y :: w :: r).length = r.length + 3 := rfl
        have e3 : x3 = nI r.length := by rw [e3, ha, pk_sub (by omega), hrl, Nat.add_sub_cancel]
        rw [fc_op3 _ _ _ _ _ h28] at hv
        rw [e3]
        have h2 : nI r.length + 2 = nI (r.length + 2) := by rw [← nI_add]; rfl
        have h1 : nI r.length + 1 = nI (r.length + 1) := nI_1 _
        have hx : sk (nI r.length + 2).toNatClampNeg = x := by rw [h2, nI_clamp (by omega)]; exact hk.1
        have hy : sk (nI r.length + 1).toNatClampNeg = y := by rw [h1, nI_clamp (by omega)]; exact hk.2.1
        have hw : sk (nI r.length).toNatClampNeg = w := by rw [nI_clamp (by omega)]; exact hk.2.2.1
        refine ⟨by rw [h2]; exact vp_in_nI (by omega) (by omega), ?_⟩
        rw [hx]
        refine br_c (fun z => ?_) (fun z => ?_)
        · rw [if_pos z] at hv
          refine ⟨vp_in_nI (by omega) (by omega), ?_⟩
          rw [hw]
          exact fin r w hk.2.2.2 (by omega) hv
        · rw [if_neg z] at hv
          refine ⟨by rw [h1]; exact vp_in_nI (by omega) (by omega), ?_⟩
          rw [hy]
          exact fin r y hk.2.2.2 (by omega) hv
      · have ha : fc_a c = 2 := fc_a2 (by omega) h27 h28
        obtain ⟨x, y, r, rfl⟩ := fc_l2 (l := l) (by omega)
        have hrl : (x :: y :: r).length = r.length + 2 := rfl
        have e3 : x3 = nI r.length := by rw [e3, ha, pk_sub (by omega), hrl, Nat.add_sub_cancel]
        rw [fc_op2 _ _ _ _ h20 h27 h28] at hv
        rw [e3]
        have h1 : nI r.length + 1 = nI (r.length + 1) := nI_1 _
        have hx : sk (nI r.length + 1).toNatClampNeg = x := by rw [h1, nI_clamp (by omega)]; exact hk.1
        have hy : sk (nI r.length).toNatClampNeg = y := by rw [nI_clamp (by omega)]; exact hk.2.1
        refine ⟨by rw [h1]; exact vp_in_nI (by omega) (by omega), vp_in_nI (by omega) (by omega), ?_⟩
        rw [hx, hy]
        refine fx_cb h20 (by unfold fc_nc at hc; omega) ?_
        exact fin r _ hk.2.2 (by omega) hv
    · have h10 : 10 ≤ c := by unfold fc_nc at hc; omega
      have ha : fc_a c = 0 := fc_a0 (by omega)
      have e3 : x3 = nI l.length := by rw [e3, ha, pk_sub (by omega), Nat.sub_zero]
      rw [fc_opv _ _ h10 h12] at hv
      have h1 : nI c - 10 = nI (c - 10) := pk_sub (a := c) (b := 10) h10
      rw [h1, e3]
      refine fx_vi hz hs (by omega) ?_
      exact fin l _ hk (by omega) hv
    · have ha : fc_a c = 0 := fc_a0 (by omega)
      have e3 : x3 = nI l.length := by rw [e3, ha, pk_sub (by omega), Nat.sub_zero]
      rw [fc_opn _ _ h4] at hv
      rw [e3]
      exact fin l _ hk (by omega) hv
theorem fx_wk {post : Int32 → SX → Prop} (hz : fc_Z sz) {j s : Nat} (hj : j < 19) (hs : s < 2 ^ 31) (ok : fc_ok tk ln j)
    (hp : ∀ sk', post (fc_w sz tk ln j s) (tl, fc, sz, tk, ln, an, fa, sk', lw, hg, mv, en, dp, ca, rc, re, ho, ae, ta, ow, ts, fs)) : wpX_work post (tl, fc, sz, tk, ln, an, fa, sk, lw, hg, mv, en, dp, ca, rc, re, ho, ae, ta, ow, ts, fs) (nI j) (nI s) := by
  have hL := ok.1.2.1
  refine ⟨vp_in_nI hj (by omega), ?_⟩
  rw [nI_clamp (by omega)]
  refine nm_r (e' := nI (fc_L ln j) + (-1)) ?_ ⟨fc_L ln j + 1, ?_⟩
  · rw [← fn_sub1, ← ok.1.1]
  · exact fx_w12 hz hj hs ok hp _ (Nat.le_refl _) [] sk _ ok.2.2.symm trivial rfl (by omega)
theorem fx_is {post : Int32 → SX → Prop} (hz : fc_Z sz) {j s : Nat} (hj : j < 19) (hs : s < 2 ^ 31) (ok : fc_L ln j = 0 ∨ fc_ok tk ln j) (hl : ln j = nI (fc_L ln j)) (hb : fc_L ln j ≤ 12)
    (hp : ∀ sk', post (if fc_tr sz tk ln j s then 1 else 0) (tl, fc, sz, tk, ln, an, fa, sk', lw, hg, mv, en, dp, ca, rc, re, ho, ae, ta, ow, ts, fs)) : wpX_isTrue post (tl, fc, sz, tk, ln, an, fa, sk, lw, hg, mv, en, dp, ca, rc, re, ho, ae, ta, ow, ts, fs) (nI j) (nI s) := by
  refine ⟨vp_in_nI hj (by omega), ?_⟩
  rw [nI_clamp (by omega)]
  unfold fc_tr at hp
  refine pk_eq (fc_L ln j) 0 (fun e => ?_) (fun e => ?_) hl
  · have := hp sk
    rw [decide_eq_true e, Bool.true_or, if_pos rfl] at this
    exact this
  · refine fx_wk hz hj hs (ok.resolve_left e) (fun sk' => ?_)
    have := hp sk'
    rw [decide_eq_false e, Bool.false_or] at this
    refine br_c (fun z => ?_) (fun z => ?_)
    · rw [decide_eq_false (fun k => k z), if_neg (by decide)] at this
      exact this
    · rw [decide_eq_true z, if_pos rfl] at this
      exact this
end FXW
end
section
section FXM
variable {tl fc : Int32} {sz tk ln an fa sk lw hg mv en dp ca rc : Nat → Int32} {re : Nat → Int64} {ho ae ta ow ts fs : Nat → Int32}
def fx_S (sz tk ln : Nat → Int32) : Prop := fc_Z sz ∧ fc_sh tk ln 0 ∧ ∀ j, 1 ≤ j → j < 19 → ln j = nI (fc_L ln j) ∧ fc_L ln j ≤ 12 ∧ (fc_L ln j = 0 ∨ fc_ok tk ln j)
theorem fb_st {x : Int32} {g : Nat → Bool} {i : Nat} (hi : i < 4) (h : fb_4 x (fun a => decide (a < i) && g a)) (k : g i = true) : fb_4 (x ||| ((1 : Int32) <<< (nI i &&& 31))) (fun a => decide (a < i + 1) && g a) := by
  refine fb_cg (fb_or h (fb_1 hi)) (fun a _ => ?_)
  by_cases e : a = i
  · subst e; simp [k]
  · rw [decide_eq_false e, Bool.or_false]
    congr 1
    exact decide_eq_decide.mpr (by omega)
theorem fb_sf {x : Int32} {g : Nat → Bool} {i : Nat} (h : fb_4 x (fun a => decide (a < i) && g a)) (k : g i = false) : fb_4 x (fun a => decide (a < i + 1) && g a) := by
  refine fb_cg h (fun a _ => ?_)
  by_cases e : a = i
  · subst e; simp [k]
  · congr 1
    exact decide_eq_decide.mpr (by omega)
theorem fb_s4 {x : Int32} {g : Nat → Bool} (h : fb_4 x (fun a => decide (a < 4) && g a)) : fb_4 x g := fb_cg h (fun a ha => by simp [ha])
theorem fb_s0 {g : Nat → Bool} : fb_4 0 (fun a => decide (a < 0) && g a) := fb_cg fb_0 (fun a _ => by simp)
theorem fx_tg {post : Int32 → SX → Prop} (S : fx_S sz tk ln) {s : Nat} (hs : s < 2 ^ 31)
    (hp : ∀ sk' r, fb_4 r (fun a => fc_g sz tk ln a s) → post r (tl, fc, sz, tk, ln, an, fa, sk', lw, hg, mv, en, dp, ca, rc, re, ho, ae, ta, ow, ts, fs)) : wpX_trueGuards post (tl, fc, sz, tk, ln, an, fa, sk, lw, hg, mv, en, dp, ca, rc, re, ho, ae, ta, ow, ts, fs) (nI s) := by
  refine pk_loop (fun n i p => wX_trueGuards_4 post (nI s) n p.1 (nI i) tl fc sz tk ln an fa p.2 lw hg mv en dp ca rc re ho ae ta ow ts fs) (fun i (p : Int32 × (Nat → Int32)) => fb_4 p.1 (fun a => decide (a < i) && fc_g sz tk ln a s)) 4 0 (0, sk) (by omega) fb_s0 (fun n p I => ?_) (fun n i p hi I k => ?_)
  · obtain ⟨r, sk⟩ := p
    exact br_t (by decide) (hp sk r (fb_s4 I))
  · obtain ⟨r, sk⟩ := p
    refine pk_le 4 i (fun z => absurd z (by omega)) (fun _ => ?_)
    obtain ⟨h1, h2, h3⟩ := S.2.2 (3 + i) (by omega) (by omega)
    have hx : 3 + nI i = nI (3 + i) := by rw [← nI_add]; rfl
    refine fx_it hi h1 h2 (fun z => br_f (by decide) ?_) (fun z => br_t rfl ?_)
    · rw [hx]
      refine fx_wk S.1 (by omega) hs (h3.resolve_left z) (fun sk' => br_c (fun w => ?_) (fun w => ?_))
      · refine nm_r (nI_1 i) (k (r, sk') (fb_sf I ?_))
        simp [fc_g, w]
      · refine nm_e (nm_r (nI_1 i) (k (_, sk') (fb_st hi I ?_)))
        simp [fc_g, w, z]
    · refine nm_r (nI_1 i) (k (r, sk) (fb_sf I ?_))
      simp [fc_g, z]
/-! the box of an action's targets -/
def fx_bx (sz tk ln an : Nat → Int32) (a s : Nat) (lw hg : Nat → Int32) (v : Nat) : Prop :=
  ∃ l h, lw v = nI l ∧ hg v = nI h ∧ l ≤ h ∧ h < fc_z sz v ∧ ∀ x, x < fc_z sz v → (fc_al sz tk ln an a v s x = true ↔ l ≤ x ∧ x ≤ h)
theorem fx_bxu {a s v w : Nat} {x y : Int32} (h : fx_bx sz tk ln an a s lw hg v) (e : v ≠ w) : fx_bx sz tk ln an a s (upd lw w x) (upd hg w y) v := by
  obtain ⟨l, m, h1, h2, h3⟩ := h
  exact ⟨l, m, (pk_un e).trans h1, (pk_un e).trans h2, h3⟩
theorem fx_b1 {a s v k : Nat} (hk : k < fc_z sz v) (h : ∀ x, x < fc_z sz v → (fc_al sz tk ln an a v s x = true ↔ x = k)) : fx_bx sz tk ln an a s (upd lw v (nI k)) (upd hg v (nI k)) v :=
  ⟨k, k, pk_us, pk_us, Nat.le_refl _, hk, fun x hx => (h x hx).trans (by omega)⟩
theorem fx_bt {post : SX → Prop} (S : fx_S sz tk ln) {a s : Nat} (ha : a < 4) (hs : s < 2 ^ 31)
    (hp : ∀ sk' lw' hg', (∀ v, v < 3 → fx_bx sz tk ln an a s lw' hg' v) → post (tl, fc, sz, tk, ln, an, fa, sk', lw', hg', mv, en, dp, ca, rc, re, ho, ae, ta, ow, ts, fs)) : wpX_boundTargets post (tl, fc, sz, tk, ln, an, fa, sk, lw, hg, mv, en, dp, ca, rc, re, ho, ae, ta, ow, ts, fs) (nI a) (nI s) := by
  refine pk_loop (fun n i p => wX_boundTargets_2 post (nI a) (nI s) n (nI i) tl fc sz tk ln an fa p.1 p.2.1 p.2.2 mv en dp ca rc re ho ae ta ow ts fs) (fun i (p : (Nat → Int32) × (Nat → Int32) × (Nat → Int32)) => ∀ v, v < i → fx_bx sz tk ln an a s p.2.1 p.2.2 v) 3 0 (sk, lw, hg) (by omega) (fun v hv => absurd hv (by omega)) (fun n p I => ?_) (fun n i p hi I k => ?_)
  · obtain ⟨sk, lw, hg⟩ := p
    exact br_t (by decide) (hp sk lw hg I)
  · obtain ⟨sk, lw, hg⟩ := p
    refine pk_le 3 i (fun z => absurd z (by omega)) (fun _ => ?_)
    obtain ⟨h1, h2, h3⟩ := S.2.2 (7 + (a * 3 + i)) (by omega) (by omega)
    obtain ⟨z1, z2, z3⟩ := S.1 i hi
    have hx : nI a * 3 + nI i = nI (a * 3 + i) := by rw [← nI_add, ← pk_mul]; rfl
    have h7 : 7 + nI (a * 3 + i) = nI (7 + (a * 3 + i)) := nI_add 7 _
    have h0 : ¬ sz i = 0 := by rw [z1]; exact nI_ne0 (by omega) (by omega)
    have fin : ∀ sk' x y, fx_bx sz tk ln an a s (upd lw i x) (upd hg i y) i → wX_boundTargets_2 post (nI a) (nI s) n (nI (i + 1)) tl fc sz tk ln an fa sk' (upd lw i x) (upd hg i y) mv en dp ca rc re ho ae ta ow ts fs := by
      intro sk' x y h
      refine k (sk', upd lw i x, upd hg i y) (fun v hv => ?_)
      by_cases e : v = i
      · subst e; exact h
      · exact fx_bxu (I v (by omega)) e
    refine nm_r hx ?_
    rw [h7, nI_clamp (by omega), nI_clamp (by omega)]
    refine ⟨vp_in_nI (by omega) (by omega), ?_⟩
    refine pk_le (fc_L ln (7 + (a * 3 + i))) 0 (fun z => ?_) (fun z => ?_) h1
    · refine ⟨vp_in_nI (by omega) (by omega), ?_⟩
      refine br_c (fun e => ?_) (fun e => ?_)
      · refine fx_vi S.1 hs hi ⟨vp_in_nI hi (by omega), ?_⟩
        rw [nI_clamp (by omega)]
        refine nm_e ⟨vp_in_nI hi (by omega), vp_in_nI hi (by omega), ?_⟩
        refine nm_r (e' := upd hg i (nI (fc_v sz s i))) (by rw [pk_us]) (nm_r (nI_1 i) (fin sk _ _ ?_))
        refine fx_b1 (fc_vlt S.1 s hi) (fun x hx => ?_)
        unfold fc_al
        rw [if_neg (fun q => q (by omega)), if_pos e, decide_eq_true_iff]
      · refine ⟨vp_in_nI hi (by omega), ?_⟩
        rw [nI_clamp (by omega)]
        refine nm_e ⟨vp_in_nI hi (by omega), vp_in_nI hi (by omega), ?_⟩
        have hm : sz i - 1 = nI (fc_z sz i - 1) := by
          rw [z1]; exact pk_sub (b := 1) z2
        refine nm_r (e' := upd hg i (nI (fc_z sz i - 1))) (by rw [hm]) (nm_r (nI_1 i) (fin sk _ _ ?_))
        refine ⟨0, fc_z sz i - 1, pk_us, pk_us, by omega, by omega, fun x hx => ?_⟩
        unfold fc_al
        rw [if_neg (fun q => q (by omega)), if_neg e]
        exact ⟨fun _ => by omega, fun _ => rfl⟩
    · refine fx_wk S.1 (by omega) hs (h3.resolve_left (by omega)) (fun sk' => ?_)
      rw [nI_clamp (n := i) (by omega)]
      refine ⟨vp_in_nI hi (by omega), h0, ?_⟩
      obtain ⟨q, hq, eq⟩ := fc_rdr (fc_w sz tk ln (7 + (a * 3 + i)) s) z2 z3
      rw [← z1] at eq
      have hb : fx_bx sz tk ln an a s (upd lw i (nI q)) (upd hg i (nI q)) i := by
        refine fx_b1 hq (fun x hx => ?_)
        unfold fc_al
        rw [if_pos (by omega), eq, decide_eq_true_iff, nI_eq (by omega) (by omega)]
      unfold fc_rd at eq
      have fin2 : wX_boundTargets_70 post (wX_boundTargets_2 post (nI a) (nI s) n) (nI a) (nI s) (nI i) (nI q) (nI i) tl fc sz tk ln an fa sk' lw hg mv en dp ca rc re ho ae ta ow ts fs := by
        refine ⟨vp_in_nI hi (by omega), ?_⟩
        rw [nI_clamp (by omega)]
        refine nm_e ⟨vp_in_nI hi (by omega), vp_in_nI hi (by omega), ?_⟩
        refine nm_r (e' := upd hg i (nI q)) (by rw [pk_us]) (nm_r (nI_1 i) (fin sk' _ _ hb))
      refine nm_e (br_c (fun w => ?_) (fun w => ⟨vp_in_nI hi (by omega), ?_⟩))
      · rw [if_pos w] at eq
        rw [eq]; exact fin2
      · rw [if_neg w] at eq
        rw [eq]; exact fin2
/-! moves are added over the box -/
def fc_or (b : Int32) (P : Nat → Prop) (m m' : Nat → Int32) : Prop := ∀ i, (P i ∧ m' i = m i ||| b) ∨ (¬ P i ∧ m' i = m i)
theorem fc_or0 {b : Int32} {P : Nat → Prop} {m : Nat → Int32} (h : ∀ i, ¬ P i) : fc_or b P m m := fun i => Or.inr ⟨h i, rfl⟩
theorem fc_orc {b : Int32} {P Q : Nat → Prop} {m m' : Nat → Int32} (h : fc_or b P m m') (e : ∀ i, P i ↔ Q i) : fc_or b Q m m' := fun i =>
  (h i).elim (fun z => Or.inl ⟨(e i).mp z.1, z.2⟩) (fun z => Or.inr ⟨fun q => z.1 ((e i).mpr q), z.2⟩)
theorem fc_or1 {b : Int32} {P Q : Nat → Prop} {m m' : Nat → Int32} {j : Nat} (h : fc_or b P m m') (e : ∀ i, Q i ↔ (P i ∨ i = j)) : fc_or b Q m (upd m' j (m' j ||| b)) := by
  intro i
  by_cases z : i = j
  · subst z
    refine Or.inl ⟨(e i).mpr (Or.inr rfl), ?_⟩
    rw [pk_us]
    rcases h i with ⟨_, k⟩ | ⟨_, k⟩
    · rw [k, Int32.or_assoc, Int32.or_self]
    · rw [k]
  · rw [pk_un z]
    rcases h i with ⟨p, k⟩ | ⟨p, k⟩
    · exact Or.inl ⟨(e i).mpr (Or.inl p), k⟩
    · exact Or.inr ⟨fun q => ((e i).mp q).elim p z, k⟩
def fx_P (sz : Nat → Int32) (s : Nat) (l h : Nat → Nat) (z y x i : Nat) : Prop :=
  ∃ x' y' z', l 0 ≤ x' ∧ x' ≤ h 0 ∧ l 1 ≤ y' ∧ y' ≤ h 1 ∧ l 2 ≤ z' ∧ z' ≤ h 2 ∧ i = s * 125 + fc_mk sz x' y' z' ∧ (z' < z ∨ (z' = z ∧ (y' < y ∨ (y' = y ∧ x' < x))))
theorem fx_am {post : SX → Prop} (hz : fc_Z sz) {a s : Nat} (ha : a < 4) (hs : s < 125) (l h : Nat → Nat) (hb : ∀ v, v < 3 → lw v = nI (l v) ∧ hg v = nI (h v) ∧ l v ≤ h v ∧ h v < fc_z sz v)
    (hp : ∀ mv', fc_or ((1 : Int32) <<< (nI a &&& 31)) (fx_P sz s l h (h 2 + 1) 0 0) mv mv' → post (tl, fc, sz, tk, ln, an, fa, sk, lw, hg, mv', en, dp, ca, rc, re, ho, ae, ta, ow, ts, fs)) : wpX_addMoves post (tl, fc, sz, tk, ln, an, fa, sk, lw, hg, mv, en, dp, ca, rc, re, ho, ae, ta, ow, ts, fs) (nI a) (nI s) := by
  obtain ⟨a1, a2, a3, a4⟩ := hb 0 (by omega)
  obtain ⟨b1, b2, b3, b4⟩ := hb 1 (by omega)
  obtain ⟨c1, c2, c3, c4⟩ := hb 2 (by omega)
  obtain ⟨za1, za2, za3⟩ := hz 0 (by omega)
  obtain ⟨zb1, zb2, zb3⟩ := hz 1 (by omega)
  obtain ⟨zc1, zc2, zc3⟩ := hz 2 (by omega)
  have hN := fc_N1 hz
  refine nm_r c1 ?_
  refine pk_loop (fun n i m => wX_addMoves_7 post (nI a) (nI s) tl fc n (nI i) sz tk ln an fa sk lw hg m en dp ca rc re ho ae ta ow ts fs) (fun i m => l 2 ≤ i ∧ fc_or ((1 : Int32) <<< (nI a &&& 31)) (fx_P sz s l h i (l 1) (l 0)) mv m) (h 2 + 1) (l 2) mv (by omega) ⟨Nat.le_refl _, fc_or0 ?_⟩ (fun n m I => ?_) (fun n z m hzi I k => ?_)
  · rintro i ⟨x', y', z', q⟩; omega
  · refine pk_lt (h 2) (h 2 + 1) (fun _ => hp m (fc_orc I.2 ?_)) (fun q => absurd q (by omega)) c2
    intro i
    constructor
    · rintro ⟨x', y', z', q1, q2, q3, q4, q5, q6, q7, q8⟩
      exact ⟨x', y', z', q1, q2, q3, q4, q5, q6, q7, by omega⟩
    · rintro ⟨x', y', z', q1, q2, q3, q4, q5, q6, q7, q8⟩
      exact ⟨x', y', z', q1, q2, q3, q4, q5, q6, q7, by omega⟩
  · obtain ⟨hlz, I⟩ := I
    refine pk_lt (h 2) z (fun q => absurd q (by omega)) (fun _ => nm_r b1 ?_) c2
    refine pk_loop (fun n' i m => wX_addMoves_25 post (wX_addMoves_7 post (nI a) (nI s) tl fc n) (nI a) (nI s) (nI z) tl fc n' (nI i) sz tk ln an fa sk lw hg m en dp ca rc re ho ae ta ow ts fs) (fun i m => l 1 ≤ i ∧ fc_or ((1 : Int32) <<< (nI a &&& 31)) (fx_P sz s l h z i (l 0)) mv m) (h 1 + 1) (l 1) m (by omega) ⟨Nat.le_refl _, I⟩ (fun n' m I => ?_) (fun n' y m hyi I k2 => ?_)
    · refine pk_lt (h 1) (h 1 + 1) (fun _ => nm_r (nI_1 z) (k m ⟨by omega, fc_orc I.2 ?_⟩)) (fun q => absurd q (by omega)) b2
      intro i
      constructor
      · rintro ⟨x', y', z', q1, q2, q3, q4, q5, q6, q7, q8⟩
        exact ⟨x', y', z', q1, q2, q3, q4, q5, q6, q7, by omega⟩
      · rintro ⟨x', y', z', q1, q2, q3, q4, q5, q6, q7, q8⟩
        exact ⟨x', y', z', q1, q2, q3, q4, q5, q6, q7, by omega⟩
    · obtain ⟨hly, I⟩ := I
      refine pk_lt (h 1) y (fun q => absurd q (by omega)) (fun _ => nm_r a1 ?_) b2
      refine pk_loop (fun n'' i m => wX_addMoves_44 post (wX_addMoves_7 post (nI a) (nI s) tl fc n) (wX_addMoves_25 post (wX_addMoves_7 post (nI a) (nI s) tl fc n) (nI a) (nI s) (nI z) tl fc n') (nI a) (nI s) (nI z) (nI y) tl fc n'' (nI i) sz tk ln an fa sk lw hg m en dp ca rc re ho ae ta ow ts fs) (fun i m => l 0 ≤ i ∧ fc_or ((1 : Int32) <<< (nI a &&& 31)) (fx_P sz s l h z y i) mv m) (h 0 + 1) (l 0) m (by omega) ⟨Nat.le_refl _, I⟩ (fun n'' m I => ?_) (fun n'' x m hxi I k3 => ?_)
      · refine pk_lt (h 0) (h 0 + 1) (fun _ => nm_r (nI_1 y) (k2 m ⟨by omega, fc_orc I.2 ?_⟩)) (fun q => absurd q (by omega)) a2
        intro i
        constructor
        · rintro ⟨x', y', z', q1, q2, q3, q4, q5, q6, q7, q8⟩
          exact ⟨x', y', z', q1, q2, q3, q4, q5, q6, q7, by omega⟩
        · rintro ⟨x', y', z', q1, q2, q3, q4, q5, q6, q7, q8⟩
          exact ⟨x', y', z', q1, q2, q3, q4, q5, q6, q7, by omega⟩
      · obtain ⟨hlx, I⟩ := I
        refine pk_lt (h 0) x (fun q => absurd q (by omega)) (fun _ => ?_) a2
        have hm : nI x + sz 0 * (nI y + sz 1 * nI z) = nI (fc_mk sz x y z) := by
          rw [za1, zb1, pk_mul, nI_add, pk_mul, nI_add]; rfl
        have hlt : fc_mk sz x y z < fc_N sz := fc_mk_lt (by omega) (by omega) (by omega)
        have hx : nI s * 125 + nI (fc_mk sz x y z) = nI (s * 125 + fc_mk sz x y z) := by
          rw [← nI_add, ← pk_mul]; rfl
        refine nm_r hm ?_
        rw [hx, nI_clamp (by omega)]
        refine ⟨vp_in_nI (by omega) (by omega), vp_in_nI (by omega) (by omega), ?_⟩
        refine nm_e (nm_r (nI_1 x) (k3 _ ⟨by omega, fc_or1 I (fun i => ?_)⟩))
        constructor
        · rintro ⟨x', y', z', q1, q2, q3, q4, q5, q6, q7, q8⟩
          by_cases e : x' = x ∧ y' = y ∧ z' = z
          · obtain ⟨rfl, rfl, rfl⟩ := e
            exact Or.inr q7
          · exact Or.inl ⟨x', y', z', q1, q2, q3, q4, q5, q6, q7, by omega⟩
        · rintro (⟨x', y', z', q1, q2, q3, q4, q5, q6, q7, q8⟩ | e)
          · exact ⟨x', y', z', q1, q2, q3, q4, q5, q6, q7, by omega⟩
          · exact ⟨x, y, z, by omega, by omega, by omega, by omega, by omega, by omega, e, by omega⟩
end FXM
end
section
section FXE
variable {tl fc : Int32} {sz tk ln an fa sk lw hg mv en dp ca rc : Nat → Int32} {re : Nat → Int64} {ho ae ta ow ts fs : Nat → Int32}
def fc_ek (M : Nat → Nat → Nat → Bool) (a s : Nat) : Nat → Bool
  | 0 => false
  | k + 1 => fc_ek M a s k || (decide (k ≠ s) && M a s k)
theorem fc_ek_iff (M : Nat → Nat → Nat → Bool) (a s : Nat) : ∀ k, fc_ek M a s k = true ↔ ∃ t, t < k ∧ t ≠ s ∧ M a s t = true := by
  intro k
  induction k with
  | zero =>
    constructor
    · intro h; cases h
    · rintro ⟨t, h, _⟩; omega
  | succ k ih =>
    show (fc_ek M a s k || (decide (k ≠ s) && M a s k)) = true ↔ _
    rw [Bool.or_eq_true, ih, Bool.and_eq_true, decide_eq_true_iff]
    constructor
    · rintro (⟨t, h1, h2⟩ | ⟨h1, h2⟩)
      · exact ⟨t, by omega, h2⟩
      · exact ⟨k, by omega, h1, h2⟩
    · rintro ⟨t, h1, h2, h3⟩
      by_cases e : t = k
      · subst e; exact Or.inr ⟨h2, h3⟩
      · exact Or.inl ⟨t, by omega, h2, h3⟩
def fc_en (sz tk ln an : Nat → Int32) (a s : Nat) : Bool := fc_ek (fc_M sz tk ln an) a s (fc_N sz)
def fc_st (sz tk ln an : Nat → Int32) (s t : Nat) : Prop := s ≠ t ∧ ∃ a, a < 4 ∧ fc_M sz tk ln an a s t = true
def fc_i (sz tk ln : Nat → Int32) (s : Nat) : Prop := fc_tr sz tk ln 1 s = true
def fc_Dp (sz tk ln an dp : Nat → Int32) : Prop := fg_D (fc_N sz) (fc_i sz tk ln) (fc_st sz tk ln an) dp
def fx_mvs (sz tk ln an mv : Nat → Int32) (s : Nat) : Prop := ∀ t, t < fc_N sz → fb_4 (mv (s * 125 + t)) (fun a => fc_M sz tk ln an a s t)
def fx_X (sz tk ln an mv en dp : Nat → Int32) : Prop := (∀ s, s < fc_N sz → fx_mvs sz tk ln an mv s ∧ fb_4 (en s) (fun a => fc_en sz tk ln an a s)) ∧ fc_Dp sz tk ln an dp
theorem fx_mz {sz tk ln an mv : Nat → Int32} {s t : Nat} (h : fx_mvs sz tk ln an mv s) (ht : t < fc_N sz) (e : s ≠ t) : mv (s * 125 + t) = 0 ↔ ¬ fc_st sz tk ln an s t := by
  rw [fb_z (h t ht)]
  constructor
  · rintro k ⟨_, a, ha, q⟩
    rw [k a ha] at q; cases q
  · intro k a ha
    cases q : fc_M sz tk ln an a s t
    · rfl
    · exact absurd ⟨e, a, ha, q⟩ k
/-! deepenFrom, findDepths -/
theorem fx_df {post : SX → Prop} (hz : fc_Z sz) {s d : Nat} (hs : s < fc_N sz) (hd : dp s = nI d) (hd2 : d < 2 ^ 30) (hm : fx_mvs sz tk ln an mv s)
    (hv : ∀ t, t < fc_N sz → dp t = -1 ∨ ∃ e, e < 2 ^ 30 ∧ dp t = nI e) (hp : ∀ dq, fg_dn (fc_N sz) (fc_st sz tk ln an) d s dp dq → post (tl, fc, sz, tk, ln, an, fa, sk, lw, hg, mv, en, dq, ca, rc, re, ho, ae, ta, ow, ts, fs)) : wpX_deepenFrom post (tl, fc, sz, tk, ln, an, fa, sk, lw, hg, mv, en, dp, ca, rc, re, ho, ae, ta, ow, ts, fs) (nI s) := by
  have hN := fc_N1 hz
  unfold wpX_deepenFrom
  refine fx_ns hz ?_
  refine pk_loop (fun n i q => wX_deepenFrom_7 post (nI s) (nI (fc_N sz)) tl fc n (nI i) sz tk ln an fa sk lw hg mv en q ca rc re ho ae ta ow ts fs) (fun i q => (∀ t, t < i → (dp t = -1 ∧ fc_st sz tk ln an s t ∧ q t = nI (d + 1)) ∨ (¬ (dp t = -1 ∧ fc_st sz tk ln an s t) ∧ q t = dp t)) ∧ (∀ t, i ≤ t → q t = dp t) ∧ q s = nI d) (fc_N sz) 0 dp (by omega) ⟨fun t ht => absurd ht (by omega), fun t _ => rfl, hd⟩ (fun n q I => ?_) (fun n i q hi I k => ?_)
  · exact pk_le (fc_N sz) (fc_N sz) (fun _ => hp q I.1) (fun z => absurd z (by omega))
  · obtain ⟨I1, I2, I3⟩ := I
    refine pk_le (fc_N sz) i (fun z => absurd z (by omega)) (fun _ => ?_)
    refine ⟨vp_in_nI (by omega) (by omega), ?_⟩
    have hx : nI s * 125 + nI i = nI (s * 125 + i) := by rw [← nI_add, ← pk_mul]; rfl
    rw [hx, nI_clamp (by omega), nI_clamp (by omega), nI_clamp (by omega), I2 i (Nat.le_refl _)]
    have keep : ¬ (dp i = -1 ∧ fc_st sz tk ln an s i) → wX_deepenFrom_7 post (nI s) (nI (fc_N sz)) tl fc n (nI (i + 1)) sz tk ln an fa sk lw hg mv en q ca rc re ho ae ta ow ts fs := by
      intro z
      refine k q ⟨fun t ht => ?_, fun t ht => I2 t (by omega), I3⟩
      by_cases e : t = i
      · subst e; exact Or.inr ⟨z, I2 t (by omega)⟩
      · exact I1 t (by omega)
    rcases hv i hi with e | ⟨e, he, ee⟩
    · refine br_f (by rw [e]; decide) ⟨vp_in_nI (by omega) (by omega), ?_⟩
      have hsi : s ≠ i := by
        rintro rfl
        rw [e] at hd; exact fn_ne1 (by omega) hd.symm
      refine br_c (fun z => nm_r (nI_1 i) (keep (fun q => (fx_mz hm hi hsi).mp z q.2))) (fun z => ?_)
      refine ⟨vp_in_nI (by omega) (by omega), vp_in_nI (by omega) (by omega), ?_⟩
      rw [I3, nI_1]
      refine nm_e (nm_r (nI_1 i) (k _ ⟨fun t ht => ?_, fun t ht => ?_, ?_⟩))
      · by_cases e2 : t = i
        · subst e2
          rw [pk_us]
          exact Or.inl ⟨e, Classical.byContradiction (fun w => z ((fx_mz hm hi hsi).mpr w)), rfl⟩
        · rw [pk_un e2]; exact I1 t (by omega)
      · rw [pk_un (by omega)]; exact I2 t (by omega)
      · rw [pk_un hsi]; exact I3
    · refine br_t (by rw [ee]; exact nI_pos' (by omega)) (nm_r (nI_1 i) (keep ?_))
      rintro ⟨q, _⟩
      rw [ee] at q
      exact fn_ne1 (by omega) q
theorem fx_Iv {N : Nat} {I0 : Nat → Prop} {st : Nat → Nat → Prop} {d s0 : Nat} {dp : Nat → Int32} (hd : d < 2 ^ 20) (h : fg_I N I0 st d s0 dp) (t : Nat) (ht : t < N) : dp t = -1 ∨ ∃ e, e < 2 ^ 30 ∧ dp t = nI e := by
  rcases h t ht with ⟨k, hk, ek, g⟩ | ⟨ek, g⟩ | ⟨ek, g⟩
  · exact Or.inr ⟨k, by omega, ek⟩
  · exact Or.inr ⟨d + 1, by omega, ek⟩
  · exact Or.inl ek
theorem fx_fd {post : SX → Prop} (S : fx_S sz tk ln) (hm : ∀ s, s < fc_N sz → fx_mvs sz tk ln an mv s) (hp : ∀ sk' dp', fc_Dp sz tk ln an dp' → post (tl, fc, sz, tk, ln, an, fa, sk', lw, hg, mv, en, dp', ca, rc, re, ho, ae, ta, ow, ts, fs)) : wpX_findDepths post (tl, fc, sz, tk, ln, an, fa, sk, lw, hg, mv, en, dp, ca, rc, re, ho, ae, ta, ow, ts, fs) := by
  have hz := S.1
  have hN := fc_N1 hz
  unfold wpX_findDepths
  refine fx_ns hz ?_
  refine pk_loop (fun n i p => wX_findDepths_7 post (nI (fc_N sz)) n (nI i) tl fc sz tk ln an fa p.1 lw hg mv en p.2 ca rc re ho ae ta ow ts fs) (fun i (p : (Nat → Int32) × (Nat → Int32)) => ∀ s, s < i → (fc_i sz tk ln s ∧ p.2 s = 0) ∨ (¬ fc_i sz tk ln s ∧ p.2 s = -1)) (fc_N sz) 0 (sk, dp) (by omega) (fun v hv => absurd hv (by omega)) (fun n p I => ?_) (fun n i p hi I k => ?_)
  · obtain ⟨sk, dp⟩ := p
    refine pk_le (fc_N sz) (fc_N sz) (fun _ => ?_) (fun z => absurd z (by omega))
    refine pk_loop (fun n d q => wX_findDepths_40 post (nI (fc_N sz)) n (nI d) tl fc sz tk ln an fa sk lw hg mv en q ca rc re ho ae ta ow ts fs) (fun d q => fg_I (fc_N sz) (fc_i sz tk ln) (fc_st sz tk ln an) d 0 q) (fc_N sz) 0 dp (by omega) (fg_I0 I) (fun n q J => ?_) (fun n d q hd J k => ?_)
    · exact pk_le (fc_N sz) (fc_N sz) (fun _ => hp sk q (fg_fX J)) (fun z => absurd z (by omega))
    · refine pk_le (fc_N sz) d (fun z => absurd z (by omega)) (fun _ => ?_)
      refine pk_loop (fun n' i q => wX_findDepths_47 post (wX_findDepths_40 post (nI (fc_N sz)) n) (nI (fc_N sz)) (nI d) n' (nI i) tl fc sz tk ln an fa sk lw hg mv en q ca rc re ho ae ta ow ts fs) (fun i q => fg_I (fc_N sz) (fc_i sz tk ln) (fc_st sz tk ln an) d i q) (fc_N sz) 0 q (by omega) J (fun n' q J => ?_) (fun n' i q hi J k2 => ?_)
      · exact pk_le (fc_N sz) (fc_N sz) (fun _ => nm_r (nI_1 d) (k q (fg_en J))) (fun z => absurd z (by omega))
      · refine pk_le (fc_N sz) i (fun z => absurd z (by omega)) (fun _ => ?_)
        refine ⟨vp_in_nI (by omega) (by omega), ?_⟩
        rw [nI_clamp (by omega)]
        refine br_c (fun e => ?_) (fun e => nm_r (nI_1 i) (k2 q (fg_sk J e)))
        refine fx_df hz hi e (by omega) (hm i hi) (fun t ht => fx_Iv (by omega) J t ht) (fun dq hq => ?_)
        exact nm_r (nI_1 i) (k2 dq (fg_st J (fg_Ie (by omega) (by omega) J hi e) hq (by omega)))
  · obtain ⟨sk, dp⟩ := p
    refine pk_le (fc_N sz) i (fun z => absurd z (by omega)) (fun _ => ?_)
    obtain ⟨h1, h2, h3⟩ := S.2.2 1 (by omega) (by omega)
    have fin : ∀ sk' x, ((fc_i sz tk ln i ∧ x = 0) ∨ (¬ fc_i sz tk ln i ∧ x = -1)) → wX_findDepths_7 post (nI (fc_N sz)) n (nI (i + 1)) tl fc sz tk ln an fa sk' lw hg mv en (upd dp i x) ca rc re ho ae ta ow ts fs := by
      intro sk' x h
      refine k (sk', upd dp i x) (fun s hs => ?_)
      by_cases e : s = i
      · subst e; show (_ ∧ upd dp s x s = 0) ∨ (_ ∧ upd dp s x s = -1); rw [pk_us]; exact h
      · show (_ ∧ upd dp i x s = 0) ∨ (_ ∧ upd dp i x s = -1); rw [pk_un e]; exact I s (by omega)
    refine fx_is hz (j := 1) (by omega) (by omega) h3 h1 h2 (fun sk' => ?_)
    rw [nI_clamp (by omega)]
    cases e : fc_tr sz tk ln 1 i
    · refine br_t (by rfl) ⟨vp_in_nI (by omega) (by omega), nm_e (nm_r (nI_1 i) (fin sk' _ (Or.inr ⟨?_, rfl⟩)))⟩
      unfold fc_i; rw [e]; decide
    · refine br_f (by decide) ⟨vp_in_nI (by omega) (by omega), nm_e (nm_r (nI_1 i) (fin sk' _ (Or.inl ⟨e, rfl⟩)))⟩
end FXE
end
section
section FXE2
variable {tl fc : Int32} {sz tk ln an fa sk lw hg mv en dp ca rc : Nat → Int32} {re : Nat → Int64} {ho ae ta ow ts fs : Nat → Int32}
theorem fx_Pi {l h : Nat → Nat} {s t : Nat} (hz : fc_Z sz) (ht : t < fc_N sz) (hh : ∀ v, v < 3 → h v < fc_z sz v) : fx_P sz s l h (h 2 + 1) 0 0 (s * 125 + t) ↔ (l 0 ≤ fc_v sz t 0 ∧ fc_v sz t 0 ≤ h 0) ∧ (l 1 ≤ fc_v sz t 1 ∧ fc_v sz t 1 ≤ h 1) ∧ (l 2 ≤ fc_v sz t 2 ∧ fc_v sz t 2 ≤ h 2) := by
  have h0 := hh 0 (by omega)
  have h1 := hh 1 (by omega)
  have h2 := hh 2 (by omega)
  constructor
  · rintro ⟨x', y', z', q1, q2, q3, q4, q5, q6, q7, q8⟩
    have e : t = fc_mk sz x' y' z' := by omega
    obtain ⟨k0, k1, k2⟩ := fc_mk_v (sz := sz) (x := x') (y := y') (z := z') (by omega) (by omega) (by omega)
    rw [e, k0, k1, k2]
    exact ⟨⟨q1, q2⟩, ⟨q3, q4⟩, q5, q6⟩
  · rintro ⟨⟨q1, q2⟩, ⟨q3, q4⟩, q5, q6⟩
    refine ⟨_, _, _, q1, q2, q3, q4, q5, q6, ?_, by omega⟩
    rw [fc_v_mk hz ht]
theorem fx_Pn {l h : Nat → Nat} {s s' t : Nat} (hz : fc_Z sz) (ht : t < 125) (e : s' ≠ s) (hh : ∀ v, v < 3 → h v < fc_z sz v) : ¬ fx_P sz s l h (h 2 + 1) 0 0 (s' * 125 + t) := by
  rintro ⟨x', y', z', q1, q2, q3, q4, q5, q6, q7, q8⟩
  have h0 := hh 0 (by omega)
  have h1 := hh 1 (by omega)
  have h2 := hh 2 (by omega)
  have := fc_mk_lt (sz := sz) (x := x') (y := y') (z := z') (by omega) (by omega) (by omega)
  have hN := fc_N1 hz
  omega
/-- rows ahead of s, and row s with the actions below a -/
def fx_row (sz tk ln an mv : Nat → Int32) (s a : Nat) : Prop := (∀ s', s' < s → fx_mvs sz tk ln an mv s') ∧ ∀ t, t < fc_N sz → fb_4 (mv (s * 125 + t)) (fun b => decide (b < a) && fc_M sz tk ln an b s t)
theorem fx_row4 {s : Nat} (h : fx_row sz tk ln an mv s 4) : ∀ s', s' < s + 1 → fx_mvs sz tk ln an mv s' := by
  intro s' hs'
  by_cases e : s' = s
  · subst e; exact fun t ht => fb_s4 (h.2 t ht)
  · exact h.1 s' (by omega)
theorem fx_rows {s a : Nat} {lw hg mv' : Nat → Int32} (hz : fc_Z sz) (hs : s < fc_N sz) (ha : a < 4) (g : fc_g sz tk ln a s = true) (hb : ∀ v, v < 3 → fx_bx sz tk ln an a s lw hg v) (l h : Nat → Nat)
    (hlh : ∀ v, v < 3 → lw v = nI (l v) ∧ hg v = nI (h v) ∧ l v ≤ h v ∧ h v < fc_z sz v) (hr : fx_row sz tk ln an mv s a) (ho : fc_or ((1 : Int32) <<< (nI a &&& 31)) (fx_P sz s l h (h 2 + 1) 0 0) mv mv') : fx_row sz tk ln an mv' s (a + 1) := by
  have hN := fc_N1 hz
  have hh : ∀ v, v < 3 → h v < fc_z sz v := fun v hv => (hlh v hv).2.2.2
  refine ⟨fun s' hs' t ht => ?_, fun t ht => ?_⟩
  · rcases ho (s' * 125 + t) with ⟨p, _⟩ | ⟨_, e⟩
    · exact absurd p (fx_Pn hz (by omega) (by omega) hh)
    · rw [e]; exact hr.1 s' hs' t ht
  · have hal : ∀ v, v < 3 → (fc_al sz tk ln an a v s (fc_v sz t v) = true ↔ l v ≤ fc_v sz t v ∧ fc_v sz t v ≤ h v) := by
      intro v hv
      obtain ⟨l', h', e1, e2, e3, e4, e5⟩ := hb v hv
      obtain ⟨f1, f2, f3, f4⟩ := hlh v hv
      have z5 := (hz v hv).2.2
      rw [f1, nI_eq (by omega) (by omega)] at e1
      rw [f2, nI_eq (by omega) (by omega)] at e2
      rw [e1, e2]
      exact e5 _ (fc_vlt hz t hv)
    have hM : fx_P sz s l h (h 2 + 1) 0 0 (s * 125 + t) ↔ fc_M sz tk ln an a s t = true := by
      rw [fx_Pi hz ht hh, ← hal 0 (by omega), ← hal 1 (by omega), ← hal 2 (by omega)]
      unfold fc_M
      rw [g, Bool.true_and, Bool.and_eq_true, Bool.and_eq_true]
    rcases ho (s * 125 + t) with ⟨p, e⟩ | ⟨p, e⟩
    · rw [e]; exact fb_st ha (hr.2 t ht) (hM.mp p)
    · rw [e]
      refine fb_sf (hr.2 t ht) ?_
      cases q : fc_M sz tk ln an a s t
      · rfl
      · exact absurd (hM.mpr q) p
theorem fx_rowf {s a : Nat} (g : fc_g sz tk ln a s = false) (hr : fx_row sz tk ln an mv s a) : fx_row sz tk ln an mv s (a + 1) := by
  refine ⟨hr.1, fun t ht => fb_sf (hr.2 t ht) ?_⟩
  unfold fc_M; rw [g, Bool.false_and]
def fx_ens (sz tk ln an en : Nat → Int32) (s : Nat) : Prop := ∀ s', s' < s → fb_4 (en s') (fun a => fc_en sz tk ln an a s')
theorem fx_ex {post : SX → Prop} (S : fx_S sz tk ln)
    (hp : ∀ sk' lw' hg' mv' en' dp', fx_X sz tk ln an mv' en' dp' → post (tl, fc, sz, tk, ln, an, fa, sk', lw', hg', mv', en', dp', ca, rc, re, ho, ae, ta, ow, ts, fs)) : wpX_explore post (tl, fc, sz, tk, ln, an, fa, sk, lw, hg, mv, en, dp, ca, rc, re, ho, ae, ta, ow, ts, fs) := by
  have hz := S.1
  have hN := fc_N1 hz
  unfold wpX_explore
  refine fx_ns hz ?_
  refine pk_loop (fun n i p => wX_explore_7 post (nI (fc_N sz)) n (nI i) tl fc sz tk ln an fa p.1 p.2.1 p.2.2.1 p.2.2.2.1 p.2.2.2.2 dp ca rc re ho ae ta ow ts fs) (fun i (p : (Nat → Int32) × (Nat → Int32) × (Nat → Int32) × (Nat → Int32) × (Nat → Int32)) => (∀ s, s < i → fx_mvs sz tk ln an p.2.2.2.1 s) ∧ fx_ens sz tk ln an p.2.2.2.2 i) (fc_N sz) 0 (sk, lw, hg, mv, en) (by omega) ⟨fun v hv => absurd hv (by omega), fun v hv => absurd hv (by omega)⟩ (fun n p I => ?_) (fun n i p hi I k => ?_)
  · obtain ⟨sk, lw, hg, mv, en⟩ := p
    refine pk_le (fc_N sz) (fc_N sz) (fun _ => ?_) (fun z => absurd z (by omega))
    exact fx_fd S I.1 (fun sk' dp' hd => hp sk' lw hg mv en dp' ⟨fun s hs => ⟨I.1 s hs, I.2 s hs⟩, hd⟩)
  · obtain ⟨sk, lw, hg, mv, en⟩ := p
    obtain ⟨I1, I2⟩ := I
    refine pk_le (fc_N sz) i (fun z => absurd z (by omega)) (fun _ => ?_)
    refine pk_loop (fun n' t m => wX_explore_14 post (wX_explore_7 post (nI (fc_N sz)) n) (nI (fc_N sz)) (nI i) tl fc n' (nI t) sz tk ln an fa sk lw hg m en dp ca rc re ho ae ta ow ts fs) (fun t m => (∀ s, s < i → fx_mvs sz tk ln an m s) ∧ ∀ t', t' < t → m (i * 125 + t') = 0) (fc_N sz) 0 mv (by omega) ⟨I1, fun v hv => absurd hv (by omega)⟩ (fun n' m J => ?_) (fun n' t m ht J k2 => ?_)
    · refine pk_le (fc_N sz) (fc_N sz) (fun _ => ?_) (fun z => absurd z (by omega))
      refine fx_tg S (by omega) (fun sk' r hr => ?_)
      refine pk_loop (fun n' a p => wX_explore_46 post (wX_explore_7 post (nI (fc_N sz)) n) (nI (fc_N sz)) (nI i) r n' (nI a) tl fc sz tk ln an fa p.1 p.2.1 p.2.2.1 p.2.2.2 en dp ca rc re ho ae ta ow ts fs) (fun a (p : (Nat → Int32) × (Nat → Int32) × (Nat → Int32) × (Nat → Int32)) => fx_row sz tk ln an p.2.2.2 i a) 4 0 (sk', lw, hg, m) (by omega) ⟨J.1, fun t ht => ?_⟩ (fun n' p K => ?_) (fun n' a p ha K k2 => ?_)
      · show fb_4 (m (i * 125 + t)) _
        rw [J.2 t ht]; exact fb_s0
      · obtain ⟨sk, lw, hg, mv⟩ := p
        refine br_t (by decide) ⟨vp_in_nI (by omega) (by omega), ?_⟩
        rw [nI_clamp (by omega)]
        refine nm_e ?_
        refine pk_loop (fun n' t e => wX_explore_92 post (wX_explore_7 post (nI (fc_N sz)) n) (nI (fc_N sz)) (nI i) tl fc n' (nI t) sz tk ln an fa sk lw hg mv e dp ca rc re ho ae ta ow ts fs) (fun t e => fx_ens sz tk ln an e i ∧ fb_4 (e i) (fun a => fc_ek (fc_M sz tk ln an) a i t)) (fc_N sz) 0 (upd en i 0) (by omega) ⟨fun s hs => ?_, ?_⟩ (fun n' e L => ?_) (fun n' t e ht L k3 => ?_)
        · rw [pk_un (by omega)]; exact I2 s hs
        · rw [pk_us]; exact fb_0
        · refine pk_le (fc_N sz) (fc_N sz) (fun _ => nm_r (nI_1 i) (k (sk, lw, hg, mv, e) ⟨fx_row4 K, fun s hs => ?_⟩)) (fun z => absurd z (by omega))
          by_cases q : s = i
          · subst q; exact L.2
          · exact L.1 s (by omega)
        · refine pk_le (fc_N sz) t (fun z => absurd z (by omega)) (fun _ => ⟨vp_in_nI (by omega) (by omega), ?_⟩)
          have hx : nI i * 125 + nI t = nI (i * 125 + t) := by rw [← nI_add, ← pk_mul]; rfl
          rw [hx, nI_clamp (by omega), nI_clamp (by omega)]
          have fin : ∀ x, fb_4 x (fun a => fc_ek (fc_M sz tk ln an) a i (t + 1)) → wX_explore_92 post (wX_explore_7 post (nI (fc_N sz)) n) (nI (fc_N sz)) (nI i) tl fc n' (nI (t + 1)) sz tk ln an fa sk lw hg mv (upd e i x) dp ca rc re ho ae ta ow ts fs := by
            intro x hx
            refine k3 _ ⟨fun s hs => ?_, ?_⟩
            · rw [pk_un (by omega)]; exact L.1 s hs
            · rw [pk_us]; exact hx
          refine pk_eq t i (fun q => ⟨vp_in_nI (by omega) (by omega), nm_e (nm_r (nI_1 t) (fin _ ?_))⟩) (fun q => ⟨vp_in_nI (by omega) (by omega), vp_in_nI (by omega) (by omega), nm_e (nm_r (nI_1 t) (fin _ ?_))⟩)
          · refine fb_cg (fb_or L.2 fb_0) (fun a _ => ?_)
            show (_ || false) = (_ || (decide (t ≠ i) && _))
            rw [decide_eq_false (fun w => w q), Bool.false_and]
          · refine fb_cg (fb_or L.2 (fb_s4 (K.2 t ht))) (fun a _ => ?_)
            show (_ || _) = (_ || (decide (t ≠ i) && _))
            rw [decide_eq_true q, Bool.true_and]
      · obtain ⟨sk, lw, hg, mv⟩ := p
        refine pk_le 4 a (fun z => absurd z (by omega)) (fun _ => ?_)
        refine br_c (fun z => ?_) (fun z => nm_r (nI_1 a) (k2 (sk, lw, hg, mv) (fx_rowf ?_ K)))
        · have g := (fb_t1 hr ha).mp z
          refine fx_bt S ha (by omega) (fun sk2 lw2 hg2 hb => ?_)
          obtain ⟨l0, h0, q0⟩ := hb 0 (by omega)
          obtain ⟨l1, h1, q1⟩ := hb 1 (by omega)
          obtain ⟨l2, h2, q2⟩ := hb 2 (by omega)
          have hlh : ∀ v, v < 3 → lw2 v = nI ((fun v => if v = 0 then l0 else if v = 1 then l1 else l2) v) ∧ hg2 v = nI ((fun v => if v = 0 then h0 else if v = 1 then h1 else h2) v) ∧ (fun v => if v = 0 then l0 else if v = 1 then l1 else l2) v ≤ (fun v => if v = 0 then h0 else if v = 1 then h1 else h2) v ∧ (fun v => if v = 0 then h0 else if v = 1 then h1 else h2) v < fc_z sz v := by
            intro v hv
            rcases (show v = 0 ∨ v = 1 ∨ v = 2 by omega) with rfl | rfl | rfl
            · exact ⟨q0.1, q0.2.1, q0.2.2.1, q0.2.2.2.1⟩
            · exact ⟨q1.1, q1.2.1, q1.2.2.1, q1.2.2.2.1⟩
            · exact ⟨q2.1, q2.2.1, q2.2.2.1, q2.2.2.2.1⟩
          refine fx_am hz ha (by omega) _ _ hlh (fun mv2 ho => ?_)
          exact nm_r (nI_1 a) (k2 (sk2, lw2, hg2, mv2) (fx_rows hz hi ha g hb _ _ hlh K ho))
        · cases q : fc_g sz tk ln a i
          · rfl
          · exact absurd ((fb_t1 hr ha).mpr q) z
    · refine pk_le (fc_N sz) t (fun z => absurd z (by omega)) (fun _ => ?_)
      have hx : nI i * 125 + nI t = nI (i * 125 + t) := by rw [← nI_add, ← pk_mul]; rfl
      rw [hx, nI_clamp (by omega)]
      refine ⟨vp_in_nI (by omega) (by omega), nm_e (nm_r (nI_1 t) (k2 _ ⟨fun s hs t' ht' => ?_, fun t' ht' => ?_⟩))⟩
      · rw [pk_un (by omega)]; exact J.1 s hs t' ht'
      · by_cases q : t' = t
        · subst q; rw [pk_us]
        · rw [pk_un (by omega)]; exact J.2 t' (by omega)
end FXE2
end
section
section FYB
variable {kn te fl : Int32} {yk yl sz th fa ef : Nat → Int32} {go : Nat → Int64} {gu ye yd : Nat → Int32} {wa al yc : Nat → Int64} {tr fd ys : Nat → Int32}
theorem fy_in {post : Int32 → Prop} {x a b : Int32} (h1 : ¬ x < a → ¬ b < x → post 1) (h0 : x < a ∨ b < x → post 0) : wpY_in post x a b := by
  refine br_c (fun z => h0 (Or.inl z)) (fun z => br_c (fun w => h0 (Or.inr w)) (fun w => h1 z w))
theorem fy_ar {post : Int32 → Prop} {c : Nat} (hc : c < 100) (h : post (nI (fc_a c))) : wpY_arity post (nI c) := by
  refine pk_le 20 c (fun h1 => pk_eq c 27 (fun h2 => ?_) (fun h2 => pk_eq c 28 (fun h3 => ?_) (fun h3 => ?_))) (fun h1 => ?_)
  · subst h2; exact h
  · subst h3; exact h
  · rw [fc_a2 (by omega) h2 h3] at h; exact h
  · rw [fc_a0 (by omega)] at h; exact h
theorem fy_ie {post : Int32 → Prop} (hs : fc_sh yk yl 0) (h1 : fc_ex (fc_T yk 0) (fc_L yl 0) → post 1) (h0 : ¬ fc_ex (fc_T yk 0) (fc_L yl 0) → post 0) : wpY_isExpression post (kn, te, fl, yk, yl, sz, th, fa, ef, go, gu, ye, yd, wa, al, yc, tr, fd, ys) 0 := by
  have e0 : (0 : Int32).toNatClampNeg = 0 := rfl
  have key : ∀ d i, i + d = fc_L yl 0 → (∀ j, j < i → 0 < fc_ms (fc_T yk 0) j) → wY_isExpression_4 post 0 kn te fl yk yl sz th fa ef go gu ye yd wa al yc tr fd ys (d + 1) (nI (fc_ms (fc_T yk 0) i)) (nI i) := by
    intro d
    induction d with
    | zero =>
      intro i hi hm
      have hb := fc_ms_up (fc_T yk 0) i
      have h12 := hs.2.1
      refine ⟨vp_in_nI (n := 0) (by omega) (by omega), ?_⟩
      rw [e0]
      refine pk_le (fc_L yl 0) i (fun _ => pk_eq (fc_ms (fc_T yk 0) i) 0 (fun e => h1 ?_) (fun e => h0 ?_)) (fun z => absurd z (by omega)) hs.1
      · rw [← (show i = fc_L yl 0 by omega)]; exact ⟨hm, e⟩
      · rw [← (show i = fc_L yl 0 by omega)]; exact fun z => e z.2
    | succ d ih =>
      intro i hi hm
      have hb := fc_ms_up (fc_T yk 0) i
      have h12 := hs.2.1
      refine ⟨vp_in_nI (n := 0) (by omega) (by omega), ?_⟩
      rw [e0]
      refine pk_le (fc_L yl 0) i (fun z => absurd z (by omega)) (fun z => pk_eq (fc_ms (fc_T yk 0) i) 0 (fun e => h0 ?_) (fun e => ?_)) hs.1
      · intro k; have := k.1 i (by omega); omega
      · obtain ⟨ht, hc⟩ := fc_sh0 hs (i := i) (by omega)
        have hx : (12 : Int32) * 0 + nI i = nI i := Int32.zero_add _
        refine ⟨by rw [hx]; exact vp_in_nI (by omega) (by omega), ?_⟩
        rw [hx, nI_clamp (by omega), ht]
        refine fy_ar (fc_nc100 hc) (fun y ey z ez => ?_)
        rw [ey, ez, fn_ms _ (by omega), nI_1]
        exact ih (i + 1) (by omega) (fun j hj => by
          by_cases e : j = i
          · subst e; omega
          · exact hm j (by omega))
  exact ⟨fc_L yl 0 + 1, key (fc_L yl 0) 0 (by omega) (fun j hj => absurd hj (by omega))⟩
theorem fy_tk0 {post : Int32 → SY → Prop} {x : Int32} (h : post 0 (kn, te, fl, yk, upd yl 0 0, sz, th, fa, ef, go, gu, ye, yd, wa, al, yc, tr, fd, ys)) : wpY_take post (kn, te, fl, yk, yl, sz, th, fa, ef, go, gu, ye, yd, wa, al, yc, tr, fd, ys) 0 x :=
  br_t rfl (nm_e ⟨fn_n0, h⟩)
theorem fy_tk1 {post : Int32 → SY → Prop} {j : Nat} (hj : 1 ≤ j) (hj2 : j < 19) (hs : fc_sh yk yl 0) (h : ∀ tq, fc_cp yk tq j (fc_L yl 0) → post 1 (0, te, fl, tq, upd (upd yl j (yl 0)) 0 0, sz, th, fa, ef, go, gu, ye, yd, wa, al, yc, tr, fd, ys)) : wpY_take post (kn, te, fl, yk, yl, sz, th, fa, ef, go, gu, ye, yd, wa, al, yc, tr, fd, ys) 1 (nI j) := by
  have h12 := hs.2.1
  refine br_f (by decide) ?_
  refine pk_loop (fun n i t => wY_take_6 post 1 (nI j) kn te fl n (nI i) t yl sz th fa ef go gu ye yd wa al yc tr fd ys) (fun i t => fc_cp yk t j i) (fc_L yl 0) 0 yk (by omega) ⟨fun k hk => absurd hk (by omega), fun m _ => rfl⟩ (fun n t ht => ?_) (fun n i t hi ht k => ?_)
  · refine pk_le (fc_L yl 0) (fc_L yl 0) (fun _ => ?_) (fun z => absurd z (by omega)) hs.1
    refine ⟨vp_in_nI hj2 (by omega), ?_⟩
    rw [nI_clamp (by omega)]
    exact nm_e (nm_e ⟨fn_n1, h t ht⟩)
  · refine pk_le (fc_L yl 0) i (fun z => absurd z (by omega)) (fun z => ?_) hs.1
    have hy : 12 * nI j + nI i = nI (j * 12 + i) := by
      rw [← nI_add, Nat.mul_comm, ← pk_mul]; rfl
    refine ⟨vp_in_nI (by omega) (by omega), ?_⟩
    rw [hy]
    refine ⟨vp_in_nI (by omega) (by omega), ?_⟩
    rw [nI_clamp (by omega), nI_clamp (by omega)]
    refine nm_e (nm_r (nI_1 i) ?_)
    exact k _ (fc_cps hj (by omega) ht)
theorem fy_ns {post : Int32 → Prop} (hz : fc_Z sz) (h : post (nI (fc_N sz))) : wpY_states post (kn, te, fl, yk, yl, sz, th, fa, ef, go, gu, ye, yd, wa, al, yc, tr, fd, ys) := by
  show post (sz 0 * sz 1 * sz 2)
  rw [fc_Nn hz]; exact h
theorem fy_vo {post : Int32 → Prop} (hz : fc_Z sz) {s v : Nat} (hs : s < fc_N sz) (hv : v < 3) (h : post (nI (fc_v sz s v))) : wpY_valueOf post (kn, te, fl, yk, yl, sz, th, fa, ef, go, gu, ye, yd, wa, al, yc, tr, fd, ys) (nI s) (nI v) := by
  have hN := fc_N1 hz
  obtain ⟨a1, a2, a3⟩ := hz 0 (by omega)
  obtain ⟨b1, b2, b3⟩ := hz 1 (by omega)
  have k1 : s / fc_z sz 0 < 2 ^ 31 := Nat.lt_of_le_of_lt (Nat.div_le_self _ _) (by omega)
  have e0 : ¬ sz 0 = 0 := by rw [a1]; exact nI_ne0 (by omega) (by omega)
  have e1 : ¬ sz 1 = 0 := by rw [b1]; exact nI_ne0 (by omega) (by omega)
  have q : nI s / sz 0 = nI (s / fc_z sz 0) := by rw [a1, pk_div (by omega) (by omega) (by omega)]
  rcases (show v = 0 ∨ v = 1 ∨ v = 2 by omega) with rfl | rfl | rfl
  · refine br_t rfl ⟨e0, ?_⟩
    have : nI s - nI s / sz 0 * sz 0 = nI (s % fc_z sz 0) := by rw [a1, pk_rem (by omega) (by omega) (by omega)]
    rw [this]; exact h
  · refine br_f (by decide) (br_t rfl ⟨e0, e1, ?_⟩)
    rw [q]
    have : nI (s / fc_z sz 0) - nI (s / fc_z sz 0) / sz 1 * sz 1 = nI (s / fc_z sz 0 % fc_z sz 1) := by rw [b1, pk_rem k1 (by omega) (by omega)]
    rw [this]; exact h
  · refine br_f (by decide) (br_f (by decide) ⟨e0, e1, ?_⟩)
    rw [q]
    have : nI (s / fc_z sz 0) / sz 1 = nI (s / fc_z sz 0 / fc_z sz 1) := by rw [b1, pk_div k1 (by omega) (by omega)]
    rw [this, ← fc_v2 hz hs]; exact h
theorem fy_cb {post : Int32 → Prop} {c : Nat} {x y : Int32} (hc : 20 ≤ c) (hc2 : c ≤ 26) (h : post (fc_bin c x y)) : wpY_calculate post (nI c) x y := by
  refine pk_lt c 20 (fun z => absurd z (by omega)) (fun _ => pk_lt 26 c (fun z => absurd z (by omega)) (fun _ => ?_))
  refine pk_eq c 20 (fun e => ?_) (fun e20 => pk_eq c 21 (fun e => ?_) (fun e21 => pk_eq c 22 (fun e => ?_) (fun e22 => pk_eq c 23 (fun e => ?_) (fun e23 => pk_eq c 24 (fun e => ?_) (fun e24 => pk_eq c 25 (fun e => ?_) (fun e25 => pk_eq c 26 (fun e => ?_) (fun e26 => absurd hc2 (by omega))))))))
  · subst e; exact h
  · subst e; exact h
  · subst e; exact h
  · subst e
    have h : post (if x = y then 1 else 0) := h
    exact br_c (fun z => by rw [if_pos z] at h; exact h) (fun z => by rw [if_neg z] at h; exact h)
  · subst e
    have h : post (if y ≤ x then 0 else 1) := h
    exact br_c (fun z => by rw [if_pos z] at h; exact h) (fun z => by rw [if_neg z] at h; exact h)
  · subst e
    have h : post (if x = 0 then 0 else if y = 0 then 0 else 1) := h
    exact br_c (fun z => by rw [if_pos z] at h; exact h) (fun z => br_c (fun w => by rw [if_neg z, if_pos w] at h; exact h) (fun w => by rw [if_neg z, if_neg w] at h; exact h))
  · subst e
    have h : post (if x = 0 then (if y = 0 then 0 else 1) else 1) := h
    exact br_c (fun z => br_c (fun w => by rw [if_pos z, if_pos w] at h; exact h) (fun w => by rw [if_pos z, if_neg w] at h; exact h)) (fun z => by rw [if_neg z] at h; exact h)
theorem fy_c27 {post : Int32 → Prop} {x y : Int32} (h : post (if x = 0 then 1 else 0)) : wpY_calculate post 27 x y := by
  refine br_f (by decide) (br_t (by decide) ?_)
  exact br_c (fun z => by rw [if_pos z] at h; exact h) (fun z => by rw [if_neg z] at h; exact h)
end FYB
end
section
section FYW
variable {kn te fl : Int32} {yk yl sz th fa ef : Nat → Int32} {go : Nat → Int64} {gu ye yd : Nat → Int32} {wa al yc : Nat → Int64} {tr fd ys : Nat → Int32}
theorem fy_w12 {post : Int32 → SY → Prop} (hz : fc_Z sz) {j s : Nat} (hj : j < 19) (hs : s < fc_N sz) (ok : fc_ok yk yl j)
    (hp : ∀ sk', post (fc_w sz yk yl j s) (kn, te, fl, yk, yl, sz, th, fa, ef, go, gu, ye, yd, wa, al, yc, tr, fd, sk')) : ∀ i, i ≤ fc_L yl j → ∀ (l : List Int32) (ys : Nat → Int32) (n : Nat), l.length = fc_ms (fc_T yk j) i → fc_SK ys l →
    fc_run (fc_T yk j) (fun v => nI (fc_v sz s v)) i l = fc_w sz yk yl j s → i < n → wY_work_12 post (nI j) (nI s) kn te fl n (nI l.length) (nI i + (-1)) yk yl sz th fa ef go gu ye yd wa al yc tr fd ys := by
  intro i
  have hL := ok.1.2.1
  induction i with
  | zero =>
    intro _ l ys n hl hk hv hn
    obtain ⟨n, rfl⟩ : ∃ m, n = m + 1 := ⟨n - 1, by omega⟩
    obtain ⟨x, r, rfl⟩ := fc_l1 (l := l) (by rw [hl]; exact Nat.le_refl _)
    have hr : r.length = 0 := by
      have : (x :: r).length = 1 := hl
      simp at this; simp [this]
    refine br_t (by decide) ?_
    have h0 : ys 0 = fc_w sz yk yl j s := by
      rw [← hv]
      have := hk.1
      rw [hr] at this
      exact this
    rw [h0]
    exact hp ys
  | succ i ih =>
    intro hi l ys n hl hk hv hn
    obtain ⟨n, rfl⟩ : ∃ m, n = m + 1 := ⟨n - 1, by omega⟩
    rw [pk_m1]
    have hd := fc_ms_dn ok.2 (fc_L yl j - i) i (by omega)
    have hd1 := fc_ms_dn ok.2 (fc_L yl j - (i + 1)) (i + 1) (by omega)
    have hm0 := ok.2.1 i (by omega)
    have hms : fc_ms (fc_T yk j) (i + 1) = fc_ms (fc_T yk j) i + fc_a (fc_T yk j i) - 1 := rfl
    obtain ⟨ht, hc⟩ := fc_nmc (ok.1.2.2 i (by omega))
    have ht : yk (j * 12 + i) = nI (fc_T yk j i) := ht
    have hc : fc_nc (fc_T yk j i) := hc
    have hc100 := fc_nc100 hc
    have hv : fc_run (fc_T yk j) (fun v => nI (fc_v sz s v)) i (fc_op (fc_T yk j i) (fun v => nI (fc_v sz s v)) l) = fc_w sz yk yl j s := hv
    have hy : 12 * nI j + nI i = nI (j * 12 + i) := by
      rw [← nI_add, Nat.mul_comm, ← pk_mul]; rfl
    generalize fc_T yk j i = c at *
    have fin : ∀ (r : List Int32) (val : Int32), fc_SK ys r → r.length + 1 = fc_ms (fc_T yk j) i → fc_run (fc_T yk j) (fun v => nI (fc_v sz s v)) i (val :: r) = fc_w sz yk yl j s →
        vp_in (nI r.length) 12 ∧ (∀ st, st = upd ys (nI r.length).toNatClampNeg val → ∀ x3', x3' = nI r.length + 1 → ∀ x4', x4' = nI i + (-1) → wY_work_12 post (nI j) (nI s) kn te fl n x3' x4' yk yl sz th fa ef go gu ye yd wa al yc tr fd st) := by
      intro r val hr hrl hrv
      refine ⟨vp_in_nI (by omega) (by omega), ?_⟩
      rw [nI_clamp (by omega)]
      refine nm_e (nm_r (nI_1 _) (nm_e ?_))
      exact ih (by omega) (val :: r) _ n hrl (fc_SKc hr) hrv (by omega)
    refine br_f (nI_pos (by omega)) ?_
    rw [hy]
    refine ⟨vp_in_nI (by omega) (by omega), ?_⟩
    rw [nI_clamp (by omega), ht]
    refine nm_e ?_
    refine pk_le 20 c (fun h20 => ?_) (fun h20 => pk_le 10 c (fun h10 => ?_) (fun h10 => ?_))
    · refine fy_ar hc100 ?_
      intro x3 e3
      refine pk_eq c 28 (fun h28 => ?_) (fun h28 => ?_)
      · have ha : fc_a c = 3 := by subst h28; rfl
        obtain ⟨x, y, w, r, rfl⟩ := fc_l3 (l := l) (by omega)
        have hrl : (x :: y :: w :: r).length = r.length + 3 := rfl
        have e3 : x3 = nI r.length := by rw [e3, ha, pk_sub (by omega), hrl, Nat.add_sub_cancel]
        rw [fc_op3 _ _ _ _ _ h28] at hv
        rw [e3]
        have h2 : nI r.length + nI 3 - 1 = nI (r.length + 2) := by
          rw [nI_add]; exact nI_pred (r.length + 2)
        have h1 : nI r.length + 1 = nI (r.length + 1) := nI_1 _
        have hx : ys (nI (r.length + 2)).toNatClampNeg = x := by rw [nI_clamp (by omega)]; exact hk.1
        have hy : ys (nI r.length + 1).toNatClampNeg = y := by rw [h1, nI_clamp (by omega)]; exact hk.2.1
        have hw : ys (nI r.length).toNatClampNeg = w := by rw [nI_clamp (by omega)]; exact hk.2.2.1
        refine ⟨vp_in_nI (by omega) (by omega), ?_⟩
        rw [hw]
        refine pk_eq c 27 (fun h27 => absurd h28 (by omega)) (fun h27 => br_t (by rw [h28]; rfl) ⟨by rw [h1]; exact vp_in_nI (by omega) (by omega), ?_⟩)
        rw [hy]
        unfold wY_work_131
        refine fy_ar hc100 ?_
        rw [ha, h2]
        refine ⟨vp_in_nI (by omega) (by omega), ?_⟩
        rw [hx]
        refine nm_e (br_t (by rw [h28]; rfl) ?_)
        refine br_c (fun z => ?_) (fun z => ?_)
        · rw [if_pos z] at hv
          exact fin r w hk.2.2.2 (by omega) hv
        · rw [if_neg z] at hv
          exact fin r y hk.2.2.2 (by omega) hv
      · refine pk_eq c 27 (fun h27 => ?_) (fun h27 => br_f (fun z => h28 ((nI_eq (b := 28) (by omega) (by omega)).mp z)) ?_)
        · have ha : fc_a c = 1 := by subst h27; rfl
          obtain ⟨x, r, rfl⟩ := fc_l1 (l := l) (by omega)
          have hrl : (x :: r).length = r.length + 1 := rfl
          have e3 : x3 = nI r.length := by rw [e3, ha, pk_sub (by omega), hrl, Nat.add_sub_cancel]
          rw [fc_op1 _ _ _ h27] at hv
          rw [e3]
          have h2 : nI r.length + nI 1 - 1 = nI r.length := by
            rw [nI_add]; exact nI_pred r.length
          have hx : ys (nI r.length).toNatClampNeg = x := by rw [nI_clamp (by omega)]; exact hk.1
          unfold wY_work_131
          refine fy_ar hc100 ?_
          rw [ha, h2]
          refine ⟨vp_in_nI (by omega) (by omega), ?_⟩
          rw [hx]
          refine nm_e (br_f (fun z => h28 ((nI_eq (b := 28) (by omega) (by omega)).mp z)) ?_)
          rw [h27]
          refine fy_c27 ?_
          exact fin r _ hk.2 (by omega) hv
        · have ha : fc_a c = 2 := fc_a2 (by omega) h27 h28
          obtain ⟨x, y, r, rfl⟩ := fc_l2 (l := l) (by omega)
          have hrl : (x :: y :: r).length = r.length + 2 := rfl
          have e3 : x3 = nI r.length := by rw [e3, ha, pk_sub (by omega), hrl, Nat.add_sub_cancel]
          rw [fc_op2 _ _ _ _ h20 h27 h28] at hv
          rw [e3]
          have h2 : nI r.length + nI 2 - 1 = nI (r.length + 1) := by
            rw [nI_add]; exact nI_pred (r.length + 1)
          have hx : ys (nI (r.length + 1)).toNatClampNeg = x := by rw [nI_clamp (by omega)]; exact hk.1
          have hy : ys (nI r.length).toNatClampNeg = y := by rw [nI_clamp (by omega)]; exact hk.2.1
          refine ⟨vp_in_nI (by omega) (by omega), ?_⟩
          rw [hy]
          unfold wY_work_131
          refine fy_ar hc100 ?_
          rw [ha, h2]
          refine ⟨vp_in_nI (by omega) (by omega), ?_⟩
          rw [hx]
          refine nm_e (br_f (fun z => h28 ((nI_eq (b := 28) (by omega) (by omega)).mp z)) ?_)
          refine fy_cb h20 (by unfold fc_nc at hc; omega) ?_
          exact fin r _ hk.2.2 (by omega) hv
    · have h12 : c ≤ 12 := by unfold fc_nc at hc; omega
      have ha : fc_a c = 0 := fc_a0 (by omega)
      rw [fc_opv _ _ h10 h12] at hv
      have h1 : nI c - 10 = nI (c - 10) := pk_sub (a := c) (b := 10) h10
      rw [h1]
      refine fy_vo hz hs (by omega) ?_
      exact fin l _ hk (by omega) hv
    · have ha : fc_a c = 0 := fc_a0 (by omega)
      have h4 : c ≤ 4 := by unfold fc_nc at hc; omega
      rw [fc_opn _ _ h4] at hv
      exact fin l _ hk (by omega) hv
theorem fy_wk {post : Int32 → SY → Prop} (hz : fc_Z sz) {j s : Nat} (hj : j < 19) (hs : s < fc_N sz) (ok : fc_ok yk yl j)
    (hp : ∀ sk', post (fc_w sz yk yl j s) (kn, te, fl, yk, yl, sz, th, fa, ef, go, gu, ye, yd, wa, al, yc, tr, fd, sk')) : wpY_work post (kn, te, fl, yk, yl, sz, th, fa, ef, go, gu, ye, yd, wa, al, yc, tr, fd, ys) (nI j) (nI s) := by
  have hL := ok.1.2.1
  refine ⟨vp_in_nI hj (by omega), ?_⟩
  rw [nI_clamp (by omega)]
  refine nm_r (e' := nI (fc_L yl j) + (-1)) ?_ ⟨fc_L yl j + 1, ?_⟩
  · rw [← fn_sub1, ← ok.1.1]
  · exact fy_w12 hz hj hs ok hp _ (Nat.le_refl _) [] ys _ ok.2.2.symm trivial rfl (by omega)
theorem fy_is {post : Int32 → SY → Prop} (hz : fc_Z sz) {j s : Nat} (hj : j < 19) (hs : s < fc_N sz) (ok : fc_L yl j = 0 ∨ fc_ok yk yl j) (hl : yl j = nI (fc_L yl j)) (hb : fc_L yl j ≤ 12)
    (hp : ∀ sk', post (if fc_tr sz yk yl j s then 1 else 0) (kn, te, fl, yk, yl, sz, th, fa, ef, go, gu, ye, yd, wa, al, yc, tr, fd, sk')) : wpY_isTrue post (kn, te, fl, yk, yl, sz, th, fa, ef, go, gu, ye, yd, wa, al, yc, tr, fd, ys) (nI j) (nI s) := by
  refine ⟨vp_in_nI hj (by omega), ?_⟩
  rw [nI_clamp (by omega)]
  unfold fc_tr at hp
  refine pk_eq (fc_L yl j) 0 (fun e => ?_) (fun e => ?_) hl
  · have := hp ys
    rw [decide_eq_true e, Bool.true_or, if_pos rfl] at this
    exact this
  · refine fy_wk hz hj hs (ok.resolve_left e) (fun sk' => ?_)
    have := hp sk'
    rw [decide_eq_false e, Bool.false_or] at this
    refine br_c (fun z => ?_) (fun z => ?_)
    · rw [decide_eq_false (fun k => k z), if_neg (by decide)] at this
      exact this
    · rw [decide_eq_true z, if_pos rfl] at this
      exact this
end FYW
end
section
section FYS
variable {kn te fl : Int32} {yk yl sz th fa ef : Nat → Int32} {go : Nat → Int64} {gu ye yd : Nat → Int32} {wa al yc : Nat → Int64} {tr fd ys : Nat → Int32}
theorem fl_i {b t : Nat} (ht : t < 2 ^ 31) : nI b + nI t / 64 = nI (b + t / 64) := by
  rw [← nI_add, show nI t / 64 = nI (t / 64) from pk_div (d := 64) ht (by omega) (by omega)]
theorem fl_r {t : Nat} (ht : t < 2 ^ 31) : nI t - nI t / 64 * 64 = nI (t % 64) := pk_rem (d := 64) ht (by omega) (by omega)
theorem fl_64 : ¬ (64 : Int32) = 0 := by decide
theorem fy_h_goes {post : Int32 → Prop} {b t : Nat} (hb : b + t / 64 < 1000) (ht : t < 128) (h1 : fl_h go b t = true → post 1) (h0 : fl_h go b t = false → post 0) : wpY_has__goes post (kn, te, fl, yk, yl, sz, th, fa, ef, go, gu, ye, yd, wa, al, yc, tr, fd, ys) (nI b) (nI t) := by
  unfold wpY_has__goes
  dsimp only
  rw [fl_i (by omega), fl_r (by omega), nI_clamp (by omega)]
  refine ⟨fl_64, vp_in_nI hb (by omega), fl_64, br_c (fun z => h1 ?_) (fun z => h0 ?_)⟩
  · exact (fl_sr _ (by omega)).mp z
  · cases q : fl_h go b t
    · rfl
    · exact absurd ((fl_sr _ (by omega)).mpr q) z
theorem fy_h_ways {post : Int32 → Prop} {b t : Nat} (hb : b + t / 64 < 250) (ht : t < 128) (h1 : fl_h wa b t = true → post 1) (h0 : fl_h wa b t = false → post 0) : wpY_has__ways post (kn, te, fl, yk, yl, sz, th, fa, ef, go, gu, ye, yd, wa, al, yc, tr, fd, ys) (nI b) (nI t) := by
  unfold wpY_has__ways
  dsimp only
  rw [fl_i (by omega), fl_r (by omega), nI_clamp (by omega)]
  refine ⟨fl_64, vp_in_nI hb (by omega), fl_64, br_c (fun z => h1 ?_) (fun z => h0 ?_)⟩
  · exact (fl_sr _ (by omega)).mp z
  · cases q : fl_h wa b t
    · rfl
    · exact absurd ((fl_sr _ (by omega)).mpr q) z
theorem fy_h_alive {post : Int32 → Prop} {b t : Nat} (hb : b + t / 64 < 2) (ht : t < 128) (h1 : fl_h al b t = true → post 1) (h0 : fl_h al b t = false → post 0) : wpY_has__alive post (kn, te, fl, yk, yl, sz, th, fa, ef, go, gu, ye, yd, wa, al, yc, tr, fd, ys) (nI b) (nI t) := by
  unfold wpY_has__alive
  dsimp only
  rw [fl_i (by omega), fl_r (by omega), nI_clamp (by omega)]
  refine ⟨fl_64, vp_in_nI hb (by omega), fl_64, br_c (fun z => h1 ?_) (fun z => h0 ?_)⟩
  · exact (fl_sr _ (by omega)).mp z
  · cases q : fl_h al b t
    · rfl
    · exact absurd ((fl_sr _ (by omega)).mpr q) z
theorem fy_h_calm {post : Int32 → Prop} {b t : Nat} (hb : b + t / 64 < 2) (ht : t < 128) (h1 : fl_h yc b t = true → post 1) (h0 : fl_h yc b t = false → post 0) : wpY_has__calm post (kn, te, fl, yk, yl, sz, th, fa, ef, go, gu, ye, yd, wa, al, yc, tr, fd, ys) (nI b) (nI t) := by
  unfold wpY_has__calm
  dsimp only
  rw [fl_i (by omega), fl_r (by omega), nI_clamp (by omega)]
  refine ⟨fl_64, vp_in_nI hb (by omega), fl_64, br_c (fun z => h1 ?_) (fun z => h0 ?_)⟩
  · exact (fl_sr _ (by omega)).mp z
  · cases q : fl_h yc b t
    · rfl
    · exact absurd ((fl_sr _ (by omega)).mpr q) z
theorem fy_p_goes {post : SY → Prop} {b t : Nat} (hb : b + t / 64 < 1000) (ht : t < 128) (h : post (kn, te, fl, yk, yl, sz, th, fa, ef, fl_put go b t, gu, ye, yd, wa, al, yc, tr, fd, ys)) : wpY_put__goes post (kn, te, fl, yk, yl, sz, th, fa, ef, go, gu, ye, yd, wa, al, yc, tr, fd, ys) (nI b) (nI t) := by
  unfold wpY_put__goes
  dsimp only
  rw [fl_i (by omega), fl_r (by omega), nI_clamp (by omega)]
  exact ⟨fl_64, vp_in_nI hb (by omega), fl_64, vp_in_nI hb (by omega), nm_e h⟩
theorem fy_p_ways {post : SY → Prop} {b t : Nat} (hb : b + t / 64 < 250) (ht : t < 128) (h : post (kn, te, fl, yk, yl, sz, th, fa, ef, go, gu, ye, yd, fl_put wa b t, al, yc, tr, fd, ys)) : wpY_put__ways post (kn, te, fl, yk, yl, sz, th, fa, ef, go, gu, ye, yd, wa, al, yc, tr, fd, ys) (nI b) (nI t) := by
  unfold wpY_put__ways
  dsimp only
  rw [fl_i (by omega), fl_r (by omega), nI_clamp (by omega)]
  exact ⟨fl_64, vp_in_nI hb (by omega), fl_64, vp_in_nI hb (by omega), nm_e h⟩
theorem fy_p_alive {post : SY → Prop} {b t : Nat} (hb : b + t / 64 < 2) (ht : t < 128) (h : post (kn, te, fl, yk, yl, sz, th, fa, ef, go, gu, ye, yd, wa, fl_put al b t, yc, tr, fd, ys)) : wpY_put__alive post (kn, te, fl, yk, yl, sz, th, fa, ef, go, gu, ye, yd, wa, al, yc, tr, fd, ys) (nI b) (nI t) := by
  unfold wpY_put__alive
  dsimp only
  rw [fl_i (by omega), fl_r (by omega), nI_clamp (by omega)]
  exact ⟨fl_64, vp_in_nI hb (by omega), fl_64, vp_in_nI hb (by omega), nm_e h⟩
theorem fy_p_calm {post : SY → Prop} {b t : Nat} (hb : b + t / 64 < 2) (ht : t < 128) (h : post (kn, te, fl, yk, yl, sz, th, fa, ef, go, gu, ye, yd, wa, al, fl_put yc b t, tr, fd, ys)) : wpY_put__calm post (kn, te, fl, yk, yl, sz, th, fa, ef, go, gu, ye, yd, wa, al, yc, tr, fd, ys) (nI b) (nI t) := by
  unfold wpY_put__calm
  dsimp only
  rw [fl_i (by omega), fl_r (by omega), nI_clamp (by omega)]
  exact ⟨fl_64, vp_in_nI hb (by omega), fl_64, vp_in_nI hb (by omega), nm_e h⟩
end FYS
end
section
section FYT
variable {kn te fl : Int32} {yk yl sz th fa ef : Nat → Int32} {go : Nat → Int64} {gu ye yd : Nat → Int32} {wa al yc : Nat → Int64} {tr fd ys : Nat → Int32} {tk ln an : Nat → Int32}
/-- what Y keeps of an effect -/
def fy_e (tk ln an yk yl ef : Nat → Int32) (a v : Nat) : Prop :=
  (ef (a * 3 + v) = 0 ∧ fc_L ln (7 + (a * 3 + v)) = 0 ∧ an (a * 3 + v) = 0) ∨ (ef (a * 3 + v) = 1 ∧ fc_L ln (7 + (a * 3 + v)) ≠ 0 ∧ fc_sm tk ln (7 + (a * 3 + v)) yk yl (3 + 4 * a + 1 + v)) ∨ (ef (a * 3 + v) = 2 ∧ fc_L ln (7 + (a * 3 + v)) = 0 ∧ an (a * 3 + v) ≠ 0)
def fy_S (tk ln an yk yl th ef : Nat → Int32) : Prop :=
  (∀ j, j < 3 → fc_sm tk ln j yk yl j) ∧ ∀ a, a < 4 → (th a = 0 ∧ fc_L ln (3 + a) = 0) ∨ (th a = 1 ∧ fc_L ln (3 + a) ≠ 0 ∧ fc_sm tk ln (3 + a) yk yl (3 + 4 * a) ∧ ∀ v, v < 3 → fy_e tk ln an yk yl ef a v)
theorem fy_th {a : Nat} (h : fy_S tk ln an yk yl th ef) (ha : a < 4) : th a = 0 ↔ fc_L ln (3 + a) = 0 := by
  rcases h.2 a ha with ⟨e, k⟩ | ⟨e, k, _⟩
  · exact ⟨fun _ => k, fun _ => e⟩
  · exact ⟨fun z => absurd (e.symm.trans z) (by decide), fun z => absurd z k⟩
theorem fy_M0 {a s t : Nat} (h : fc_L ln (3 + a) = 0) : fc_M sz tk ln an a s t = false := by
  unfold fc_M fc_g
  rw [decide_eq_false (fun k => k h)]; rfl
def fy_G (sz tk ln an : Nat → Int32) (go : Nat → Int64) : Prop := ∀ a s t, a < 4 → s < fc_N sz → t < fc_N sz → fl_h go (250 * a + 2 * s) t = fc_M sz tk ln an a s t
theorem fy_gt {post : Int32 → Prop} (hz : fc_Z sz) (Y : fy_S tk ln an yk yl th ef) (G : fy_G sz tk ln an go) {a s t : Nat} (ha : a < 4) (hs : s < fc_N sz) (ht : t < fc_N sz)
    (h1 : fc_M sz tk ln an a s t = true → post 1) (h0 : fc_M sz tk ln an a s t = false → post 0) : wpY_goesTo post (kn, te, fl, yk, yl, sz, th, fa, ef, go, gu, ye, yd, wa, al, yc, tr, fd, ys) (nI a) (nI s) (nI t) := by
  have hN := fc_N1 hz
  refine ⟨vp_in_nI ha (by omega), ?_⟩
  rw [nI_clamp (by omega)]
  refine br_c (fun z => h0 (fy_M0 ((fy_th Y ha).mp z))) (fun z => ?_)
  have e : 250 * nI a + 2 * nI s = nI (250 * a + 2 * s) := by
    rw [← nI_add, ← pk_mul, ← pk_mul]; rfl
  rw [e]
  have g := G a s t ha hs ht
  refine fy_h_goes (by omega) (by omega) (fun q => br_f (by decide) (h1 ?_)) (fun q => br_t rfl (h0 ?_))
  · rw [← g]; exact q
  · rw [← g]; exact q
theorem fy_sp {post : Int32 → Prop} (hz : fc_Z sz) (Y : fy_S tk ln an yk yl th ef) (G : fy_G sz tk ln an go) {s t : Nat} (hs : s < fc_N sz) (ht : t < fc_N sz)
    (h1 : fc_st sz tk ln an s t → post 1) (h0 : ¬ fc_st sz tk ln an s t → post 0) : wpY_step post (kn, te, fl, yk, yl, sz, th, fa, ef, go, gu, ye, yd, wa, al, yc, tr, fd, ys) (nI s) (nI t) := by
  have hN := fc_N1 hz
  refine pk_loop (fun n i x => wY_step_5 post (nI s) (nI t) kn te fl yk yl sz th fa ef go gu ye yd wa al yc tr fd ys n x (nI i)) (fun i x => (x = 0 ∧ ∀ a, a < i → fc_M sz tk ln an a s t = false) ∨ (x = 1 ∧ ∃ a, a < i ∧ fc_M sz tk ln an a s t = true)) 4 0 0 (by omega) (Or.inl ⟨rfl, fun a ha => absurd ha (by omega)⟩) (fun n x I => ?_) (fun n i x hi I k => ?_)
  · refine br_t (by decide) ?_
    rcases I with ⟨rfl, I⟩ | ⟨rfl, I⟩
    · refine br_t rfl (h0 ?_)
      rintro ⟨_, a, ha, q⟩
      rw [I a ha] at q; cases q
    · refine br_f (by decide) (pk_eq s t (fun e => h0 (fun z => z.1 e)) (fun e => h1 ⟨e, I⟩))
  · refine pk_le 4 i (fun z => absurd z (by omega)) (fun _ => ?_)
    refine fy_gt hz Y G hi hs ht (fun q => ?_) (fun q => ?_)
    · rcases I with ⟨rfl, I⟩ | ⟨rfl, I⟩
      · exact nm_e (nm_r (nI_1 i) (k _ (Or.inr ⟨by decide, i, by omega, q⟩)))
      · exact nm_e (nm_r (nI_1 i) (k _ (Or.inr ⟨by decide, i, by omega, q⟩)))
    · rcases I with ⟨rfl, I⟩ | ⟨rfl, a, ha, I⟩
      · refine nm_e (nm_r (nI_1 i) (k _ (Or.inl ⟨by decide, fun a ha => ?_⟩)))
        by_cases e : a = i
        · subst e; exact q
        · exact I a (by omega)
      · exact nm_e (nm_r (nI_1 i) (k _ (Or.inr ⟨by decide, a, by omega, I⟩)))
theorem fy_du {post : Int32 → SY → Prop} (S : fx_S sz tk ln) {a v s : Nat} (ha : a < 4) (hv : v < 3) (hs : s < fc_N sz) (E : fy_e tk ln an yk yl ef a v)
    (hp : ∀ ys' r, (ef (a * 3 + v) = 2 → ∀ x, fc_al sz tk ln an a v s x = true) → (ef (a * 3 + v) ≠ 2 → ∀ x, x < fc_z sz v → (fc_al sz tk ln an a v s x = true ↔ nI x = r)) → post r (kn, te, fl, yk, yl, sz, th, fa, ef, go, gu, ye, yd, wa, al, yc, tr, fd, ys')) : wpY_due post (kn, te, fl, yk, yl, sz, th, fa, ef, go, gu, ye, yd, wa, al, yc, tr, fd, ys) (nI a) (nI v) (nI s) := by
  have hN := fc_N1 S.1
  have i1 : 3 * nI a + nI v = nI (a * 3 + v) := by
    rw [← nI_add, Nat.mul_comm, ← pk_mul]; rfl
  have i2 : 3 + 4 * nI a + 1 + nI v = nI (3 + 4 * a + 1 + v) := by
    rw [← nI_add, ← nI_1, ← nI_add, ← pk_mul]; rfl
  unfold wpY_due
  refine fy_vo S.1 hs hv ?_
  rw [i1, i2, nI_clamp (by omega), nI_clamp (by omega)]
  refine ⟨vp_in_nI (by omega) (by omega), ?_⟩
  obtain ⟨h1, h2, h3⟩ := S.2.2 (7 + (a * 3 + v)) (by omega) (by omega)
  obtain ⟨z1, z2, z3⟩ := S.1 v hv
  have h0 : ¬ sz v = 0 := by rw [z1]; exact nI_ne0 (by omega) (by omega)
  have keep : ef (a * 3 + v) ≠ 1 → post (nI (fc_v sz s v)) (kn, te, fl, yk, yl, sz, th, fa, ef, go, gu, ye, yd, wa, al, yc, tr, fd, ys) := by
    intro n1
    refine hp ys _ (fun e x => ?_) (fun e x hx => ?_)
    · rcases E with ⟨q, _⟩ | ⟨q, _⟩ | ⟨_, q1, q2⟩
      · rw [e] at q; exact absurd q (by decide)
      · exact absurd q n1
      · unfold fc_al
        rw [if_neg (fun w => w q1), if_neg q2]
    · rcases E with ⟨_, q1, q2⟩ | ⟨q, _⟩ | ⟨q, _⟩
      · unfold fc_al
        rw [if_neg (fun w => w q1), if_pos q2, decide_eq_true_iff]
        have := fc_vlt S.1 s hv
        rw [nI_eq (by omega) (by omega)]
      · exact absurd q n1
      · exact absurd q e
  refine br_c (fun e => ?_) (fun e => keep e)
  rcases E with ⟨q, _⟩ | ⟨_, q1, q2⟩ | ⟨q, _⟩
  · rw [e] at q; exact absurd q (by decide)
  · refine fy_wk S.1 (by omega) hs (fc_sm_ok q2 (h3.resolve_left q1)) (fun ys' => ?_)
    refine ⟨vp_in_nI hv (by omega), h0, ?_⟩
    rw [fc_sm_w q2]
    have fin : ∀ r, r = fc_rd (fc_w sz tk ln (7 + (a * 3 + v)) s) (sz v) → post r (kn, te, fl, yk, yl, sz, th, fa, ef, go, gu, ye, yd, wa, al, yc, tr, fd, ys') := by
      intro r er
      refine hp ys' r (fun e2 => ?_) (fun _ x _ => ?_)
      · rw [e] at e2; exact absurd e2 (by decide)
      · unfold fc_al
        rw [if_pos q1, decide_eq_true_iff, er]
    refine nm_e (br_c (fun w => fin _ ?_) (fun w => ⟨vp_in_nI hv (by omega), fin _ ?_⟩))
    · unfold fc_rd; rw [if_pos w]
    · unfold fc_rd; rw [if_neg w]
  · rw [e] at q; exact absurd q (by decide)
end FYT
end
section
section FYL
variable {kn te fl : Int32} {yk yl sz th fa ef : Nat → Int32} {go : Nat → Int64} {gu ye yd : Nat → Int32} {wa al yc : Nat → Int64} {tr fd ys : Nat → Int32} {tk ln an : Nat → Int32}
def fy_bit (a : Nat) : Int32 := (1 : Int32) <<< (nI a &&& 31)
/-- what lead leaves -/
def fy_L (sz tk ln an : Nat → Int32) (a s : Nat) (go : Nat → Int64) (gu ye : Nat → Int32) (go' : Nat → Int64) (gu' ye' : Nat → Int32) : Prop :=
  (∀ b t, b % 2 = 0 → t < 128 → fl_h go' b t = (fl_h go b t || (decide (b = 250 * a + 2 * s ∧ t < fc_N sz) && fc_M sz tk ln an a s t))) ∧
  (∀ s', s' ≠ s → gu' s' = gu s' ∧ ye' s' = ye s') ∧ gu' s = (if fc_g sz tk ln a s then gu s ||| fy_bit a else gu s) ∧ ye' s = (if fc_en sz tk ln an a s then ye s ||| fy_bit a else ye s)
theorem fc_ekf {M : Nat → Nat → Nat → Bool} {a s : Nat} (h : ∀ t, M a s t = false) (k : Nat) : fc_ek M a s k = false := by
  cases e : fc_ek M a s k
  · rfl
  · obtain ⟨t, _, _, q⟩ := (fc_ek_iff M a s k).mp e
    rw [h t] at q; cases q
theorem fy_ld {post : SY → Prop} (S : fx_S sz tk ln) (Y : fy_S tk ln an yk yl th ef) {a s : Nat} (ha : a < 4) (hs : s < fc_N sz) (hth : th a ≠ 0)
    (hp : ∀ ys' go' gu' ye', fy_L sz tk ln an a s go gu ye go' gu' ye' → post (kn, te, fl, yk, yl, sz, th, fa, ef, go', gu', ye', yd, wa, al, yc, tr, fd, ys')) : wpY_lead post (kn, te, fl, yk, yl, sz, th, fa, ef, go, gu, ye, yd, wa, al, yc, tr, fd, ys) (nI a) (nI s) (nI (fc_N sz)) := by
  have hz := S.1
  have hN := fc_N1 hz
  rcases Y.2 a ha with ⟨q, _⟩ | ⟨_, hL, sm, E⟩
  · exact absurd q hth
  obtain ⟨h1, h2, h3⟩ := S.2.2 (3 + a) (by omega) (by omega)
  have i0 : 3 + 4 * nI a = nI (3 + 4 * a) := by rw [← nI_add, ← pk_mul]; rfl
  have j0 : 3 * nI a = nI (a * 3) := by rw [Nat.mul_comm, ← pk_mul]; rfl
  have j1 : 3 * nI a + 1 = nI (a * 3 + 1) := by rw [j0]; exact nI_add (a * 3) 1
  have j2 : 3 * nI a + 2 = nI (a * 3 + 2) := by rw [j0]; exact nI_add (a * 3) 2
  have i3 : 250 * nI a + 2 * nI s = nI (250 * a + 2 * s) := by rw [← nI_add, ← pk_mul, ← pk_mul]; rfl
  unfold wpY_lead
  dsimp only
  rw [i0]
  refine fy_wk hz (by omega) hs (fc_sm_ok sm (h3.resolve_left hL)) (fun ys1 => ?_)
  rw [fc_sm_w sm]
  refine br_c (fun z => ?_) (fun z => ?_)
  · have g : fc_g sz tk ln a s = false := by simp [fc_g, z]
    have m : ∀ t, fc_M sz tk ln an a s t = false := by intro t; unfold fc_M; rw [g, Bool.false_and]
    refine hp ys1 go gu ye ⟨fun b t _ _ => ?_, fun s' _ => ⟨rfl, rfl⟩, ?_, ?_⟩
    · rw [m t, Bool.and_false, Bool.or_false]
    · rw [g]; rfl
    · unfold fc_en; rw [fc_ekf m]; rfl
  · have g : fc_g sz tk ln a s = true := by simp [fc_g, z, hL]
    have m : ∀ t, fc_M sz tk ln an a s t = (fc_al sz tk ln an a 0 s (fc_v sz t 0) && (fc_al sz tk ln an a 1 s (fc_v sz t 1) && fc_al sz tk ln an a 2 s (fc_v sz t 2))) := by
      intro t; unfold fc_M; rw [g, Bool.true_and]
    refine ⟨vp_in_nI (by omega) (by omega), vp_in_nI (by omega) (by omega), ?_⟩
    rw [nI_clamp (by omega)]
    refine nm_e ?_
    refine fy_du S (v := 0) ha (by omega) hs (E 0 (by omega)) (fun ys2 r0 a0 b0 => ?_)
    refine fy_du S (v := 1) ha (by omega) hs (E 1 (by omega)) (fun ys3 r1 a1 b1 => ?_)
    refine fy_du S (v := 2) ha (by omega) hs (E 2 (by omega)) (fun ys4 r2 a2 b2 => ?_)
    have z0 : fc_z sz 0 < 100 := by have := hz 0 (by omega); omega
    have z1 : fc_z sz 1 < 100 := by have := hz 1 (by omega); omega
    have z2 : fc_z sz 2 < 100 := by have := hz 2 (by omega); omega
    refine pk_loop (fun n i p => wY_lead_56 post (nI a) (nI s) (nI (fc_N sz)) r0 r1 r2 n (nI i) kn te fl yk yl sz th fa ef p.1 (upd gu s (gu s ||| fy_bit a)) p.2 yd wa al yc tr fd ys4) (fun i (p : (Nat → Int64) × (Nat → Int32)) => (∀ b t, b % 2 = 0 → t < 128 → fl_h p.1 b t = (fl_h go b t || (decide (b = 250 * a + 2 * s ∧ t < i) && fc_M sz tk ln an a s t))) ∧ (∀ s', s' ≠ s → p.2 s' = ye s') ∧ p.2 s = (if fc_ek (fc_M sz tk ln an) a s i then ye s ||| fy_bit a else ye s)) (fc_N sz) 0 (go, ye) (by omega) ⟨fun b t _ _ => ?_, fun _ _ => rfl, rfl⟩ (fun n p I => ?_) (fun n t p ht I k => ?_)
    · have : decide (b = 250 * a + 2 * s ∧ t < 0) = false := decide_eq_false (by omega)
      rw [this, Bool.false_and, Bool.or_false]
    · obtain ⟨go', ye'⟩ := p
      refine pk_le (fc_N sz) (fc_N sz) (fun _ => hp ys4 go' _ ye' ⟨I.1, fun s' e => ⟨pk_un e, I.2.1 s' e⟩, ?_, I.2.2⟩) (fun q => absurd q (by omega))
      rw [pk_us, g]; rfl
    · obtain ⟨go', ye'⟩ := p
      obtain ⟨I1, I2, I3⟩ := I
      have I3 : ye' s = (if fc_ek (fc_M sz tk ln an) a s t then ye s ||| fy_bit a else ye s) := I3
      refine pk_le (fc_N sz) t (fun q => absurd q (by omega)) (fun _ => ?_)
      have t142 : fc_M sz tk ln an a s t = false → wY_lead_142 post (wY_lead_56 post (nI a) (nI s) (nI (fc_N sz)) r0 r1 r2 n) (nI a) (nI s) (nI (fc_N sz)) r0 r1 r2 (nI t) kn te fl yk yl sz th fa ef go' (upd gu s (gu s ||| fy_bit a)) ye' yd wa al yc tr fd ys4 := by
        intro q
        refine br_t rfl (nm_r (nI_1 t) (k (go', ye') ⟨fun b t' hb ht' => ?_, I2, ?_⟩))
        · show fl_h go' b t' = _
          rw [I1 b t' hb ht']
          congr 1
          by_cases e : t' = t
          · subst e; rw [q, Bool.and_false, Bool.and_false]
          · congr 1; exact decide_eq_decide.mpr (by omega)
        · show ye' s = if (fc_ek (fc_M sz tk ln an) a s t || (decide (t ≠ s) && fc_M sz tk ln an a s t)) = true then _ else _
          rw [q, Bool.and_false, Bool.or_false]; exact I3
      have t138 : fc_M sz tk ln an a s t = true → wY_lead_138 post (wY_lead_56 post (nI a) (nI s) (nI (fc_N sz)) r0 r1 r2 n) (nI a) (nI s) (nI (fc_N sz)) r0 r1 r2 (nI t) kn te fl yk yl sz th fa ef go' (upd gu s (gu s ||| fy_bit a)) ye' yd wa al yc tr fd ys4 := by
        intro q
        refine br_f (by decide) ?_
        rw [i3]
        have hgo : ∀ b t', b % 2 = 0 → t' < 128 → fl_h (fl_put go' (250 * a + 2 * s) t) b t' = (fl_h go b t' || (decide (b = 250 * a + 2 * s ∧ t' < t + 1) && fc_M sz tk ln an a s t')) := by
          intro b t' hb ht'
          rw [fl_hs go' (by omega) hb (by omega) ht', I1 b t' hb ht']
          by_cases e : b = 250 * a + 2 * s ∧ t' = t
          · obtain ⟨rfl, rfl⟩ := e
            simp [q]
          · rw [decide_eq_false e, Bool.or_false]
            congr 2
            exact decide_eq_decide.mpr (by omega)
        refine fy_p_goes (by omega) (by omega) ?_
        refine pk_eq t s (fun e => nm_r (nI_1 t) (k (_, ye') ⟨hgo, I2, ?_⟩)) (fun e => ⟨vp_in_nI (by omega) (by omega), vp_in_nI (by omega) (by omega), ?_⟩)
        · show ye' s = if (fc_ek (fc_M sz tk ln an) a s t || (decide (t ≠ s) && fc_M sz tk ln an a s t)) = true then _ else _
          rw [decide_eq_false (fun w => w e), Bool.false_and, Bool.or_false]; exact I3
        · rw [nI_clamp (by omega)]
          refine nm_e (nm_r (nI_1 t) (k (_, upd ye' s (ye' s ||| fy_bit a)) ⟨hgo, fun s' h' => (pk_un h').trans (I2 s' h'), ?_⟩))
          show upd ye' s (ye' s ||| fy_bit a) s = if (fc_ek (fc_M sz tk ln an) a s t || (decide (t ≠ s) && fc_M sz tk ln an a s t)) = true then _ else _
          rw [pk_us, q, decide_eq_true e, Bool.true_and, Bool.or_true, if_pos rfl, I3]
          cases fc_ek (fc_M sz tk ln an) a s t
          · rfl
          · show ye s ||| fy_bit a ||| fy_bit a = _
            rw [Int32.or_assoc, Int32.or_self]
      have v0 := fc_vlt hz t (v := 0) (by omega)
      have v1 := fc_vlt hz t (v := 1) (by omega)
      have v2 := fc_vlt hz t (v := 2) (by omega)
      have t112 : fc_al sz tk ln an a 0 s (fc_v sz t 0) = true → fc_al sz tk ln an a 1 s (fc_v sz t 1) = true → wY_lead_112 post (wY_lead_56 post (nI a) (nI s) (nI (fc_N sz)) r0 r1 r2 n) (nI a) (nI s) (nI (fc_N sz)) r0 r1 r2 (nI t) kn te fl yk yl sz th fa ef go' (upd gu s (gu s ||| fy_bit a)) ye' yd wa al yc tr fd ys4 := by
        intro q0 q1
        have mm : fc_M sz tk ln an a s t = fc_al sz tk ln an a 2 s (fc_v sz t 2) := by rw [m t, q0, q1]; rfl
        unfold wY_lead_112
        rw [j2, nI_clamp (by omega)]
        refine ⟨vp_in_nI (by omega) (by omega), br_c (fun e => t138 (mm.trans (a2 e _))) (fun e => fy_vo (v := 2) hz ht (by omega) (br_c (fun w => t138 (mm.trans ((b2 e _ v2).mpr w))) (fun w => t142 (mm.trans ?_))))⟩
        cases f : fc_al sz tk ln an a 2 s (fc_v sz t 2)
        · rfl
        · exact absurd ((b2 e _ v2).mp f) w
      have t86 : fc_al sz tk ln an a 0 s (fc_v sz t 0) = true → wY_lead_86 post (wY_lead_56 post (nI a) (nI s) (nI (fc_N sz)) r0 r1 r2 n) (nI a) (nI s) (nI (fc_N sz)) r0 r1 r2 (nI t) kn te fl yk yl sz th fa ef go' (upd gu s (gu s ||| fy_bit a)) ye' yd wa al yc tr fd ys4 := by
        intro q0
        unfold wY_lead_86
        rw [j1, nI_clamp (by omega)]
        refine ⟨vp_in_nI (by omega) (by omega), br_c (fun e => t112 q0 (a1 e _)) (fun e => fy_vo (v := 1) hz ht (by omega) (br_c (fun w => t112 q0 ((b1 e _ v1).mpr w)) (fun w => t142 ?_)))⟩
        cases f : fc_al sz tk ln an a 1 s (fc_v sz t 1)
        · rw [m t, f, Bool.false_and, Bool.and_false]
        · exact absurd ((b1 e _ v1).mp f) w
      rw [j0, nI_clamp (by omega)]
      refine ⟨vp_in_nI (by omega) (by omega), br_c (fun e => t86 (a0 e _)) (fun e => fy_vo (v := 0) hz ht (by omega) (br_c (fun w => t86 ((b0 e _ v0).mpr w)) (fun w => t142 ?_)))⟩
      cases f : fc_al sz tk ln an a 0 s (fc_v sz t 0)
      · rw [m t, f, Bool.false_and]
      · exact absurd ((b0 e _ v0).mp f) w
end FYL
end
section
section FYK
variable {kn te fl : Int32} {yk yl sz th fa ef : Nat → Int32} {go : Nat → Int64} {gu ye yd : Nat → Int32} {wa al yc : Nat → Int64} {tr fd ys : Nat → Int32} {tk ln an : Nat → Int32}
theorem fy_fu {post : Int32 → SY → Prop} (hz : fc_Z sz) (Y : fy_S tk ln an yk yl th ef) (G : fy_G sz tk ln an go) {s d : Nat} (hs : s < fc_N sz) (hd2 : d < 2 ^ 30)
    (hv : ∀ t, t < fc_N sz → yd t = -1 ∨ ∃ e, e < 2 ^ 30 ∧ yd t = nI e)
    (hp : ∀ dq r, fg_dn (fc_N sz) (fc_st sz tk ln an) d s yd dq → ((r = 0 ∧ ∀ t, t < fc_N sz → dq t = yd t) ∨ (r = 1 ∧ ∃ t, t < fc_N sz ∧ dq t = nI (d + 1))) → post r (kn, te, fl, yk, yl, sz, th, fa, ef, go, gu, ye, dq, wa, al, yc, tr, fd, ys)) : wpY_further post (kn, te, fl, yk, yl, sz, th, fa, ef, go, gu, ye, yd, wa, al, yc, tr, fd, ys) (nI s) (nI (fc_N sz)) (nI d) := by
  have hN := fc_N1 hz
  refine pk_loop (fun n i p => wY_further_6 post (nI s) (nI (fc_N sz)) (nI d) kn te fl n p.1 (nI i) yk yl sz th fa ef go gu ye p.2 wa al yc tr fd ys) (fun i (p : Int32 × (Nat → Int32)) => (∀ t, t < i → (yd t = -1 ∧ fc_st sz tk ln an s t ∧ p.2 t = nI (d + 1)) ∨ (¬ (yd t = -1 ∧ fc_st sz tk ln an s t) ∧ p.2 t = yd t)) ∧ (∀ t, i ≤ t → p.2 t = yd t) ∧ ((p.1 = 0 ∧ ∀ t, t < i → p.2 t = yd t) ∨ (p.1 = 1 ∧ ∃ t, t < i ∧ p.2 t = nI (d + 1)))) (fc_N sz) 0 (0, yd) (by omega) ⟨fun t ht => absurd ht (by omega), fun t _ => rfl, Or.inl ⟨rfl, fun _ _ => rfl⟩⟩ (fun n p I => ?_) (fun n i p hi I k => ?_)
  · obtain ⟨r, q⟩ := p
    obtain ⟨I1, I2, I3⟩ := I
    refine pk_le (fc_N sz) (fc_N sz) (fun _ => ⟨?_, hp q r I1 I3⟩) (fun z => absurd z (by omega))
    rcases I3 with ⟨e, _⟩ | ⟨e, _⟩
    · show narrow .boolean (.int r) = .int r
      rw [show r = 0 from e]; exact fn_n0
    · show narrow .boolean (.int r) = .int r
      rw [show r = 1 from e]; exact fn_n1
  · obtain ⟨r, q⟩ := p
    obtain ⟨I1, I2, I3⟩ := I
    have I1 : ∀ t, t < i → (yd t = -1 ∧ fc_st sz tk ln an s t ∧ q t = nI (d + 1)) ∨ (¬ (yd t = -1 ∧ fc_st sz tk ln an s t) ∧ q t = yd t) := I1
    have I2 : ∀ t, i ≤ t → q t = yd t := I2
    have I3 : (r = 0 ∧ ∀ t, t < i → q t = yd t) ∨ (r = 1 ∧ ∃ t, t < i ∧ q t = nI (d + 1)) := I3
    refine pk_le (fc_N sz) i (fun z => absurd z (by omega)) (fun _ => ?_)
    refine ⟨vp_in_nI (by omega) (by omega), ?_⟩
    dsimp only
    rw [nI_clamp (by omega), I2 i (Nat.le_refl _)]
    have keep : ¬ (yd i = -1 ∧ fc_st sz tk ln an s i) → wY_further_6 post (nI s) (nI (fc_N sz)) (nI d) kn te fl n r (nI (i + 1)) yk yl sz th fa ef go gu ye q wa al yc tr fd ys := by
      intro z
      refine k (r, q) ⟨fun t ht => ?_, fun t ht => I2 t (by omega), ?_⟩
      · by_cases e : t = i
        · subst e; exact Or.inr ⟨z, I2 t (by omega)⟩
        · exact I1 t (by omega)
      · rcases I3 with ⟨e, f⟩ | ⟨e, t, ht, f⟩
        · refine Or.inl ⟨e, fun t ht => ?_⟩
          by_cases e : t = i
          · subst e; exact I2 t (by omega)
          · exact f t (by omega)
        · exact Or.inr ⟨e, t, by omega, f⟩
    rcases hv i hi with e | ⟨e, he, ee⟩
    · refine br_f (by rw [e]; decide) (fy_sp hz Y G hs hi (fun w => br_f (by decide) ⟨vp_in_nI (by omega) (by omega), ?_⟩) (fun w => br_t rfl (nm_r (nI_1 i) (keep (fun q => w q.2)))))
      rw [nI_1]
      refine nm_e (nm_r (nI_1 i) (k (1, _) ⟨fun t ht => ?_, fun t ht => ?_, Or.inr ⟨rfl, i, by omega, pk_us⟩⟩))
      · show (_ ∧ _ ∧ upd q i (nI (d + 1)) t = _) ∨ (_ ∧ upd q i (nI (d + 1)) t = _)
        by_cases e2 : t = i
        · subst e2
          rw [pk_us]
          exact Or.inl ⟨e, w, rfl⟩
        · rw [pk_un e2]; exact I1 t (by omega)
      · show upd q i (nI (d + 1)) t = _
        rw [pk_un (by omega)]; exact I2 t (by omega)
    · refine br_t (by rw [ee]; exact nI_pos' (by omega)) (nm_r (nI_1 i) (keep ?_))
      rintro ⟨q, _⟩
      rw [ee] at q
      exact fn_ne1 (by omega) q
def fy_K (sz tk ln an : Nat → Int32) (go : Nat → Int64) (gu ye yd : Nat → Int32) : Prop := fy_G sz tk ln an go ∧ (∀ s, s < fc_N sz → fb_4 (gu s) (fun a => fc_g sz tk ln a s) ∧ fb_4 (ye s) (fun a => fc_en sz tk ln an a s)) ∧ fc_Dp sz tk ln an yd
theorem fg_Ix {N : Nat} {I0 : Nat → Prop} {st : Nat → Nat → Prop} {d : Nat} {dp : Nat → Int32} (hd : d < 2 ^ 20) (h : fg_I N I0 st d N dp) {t : Nat} (ht : t < N) : dp t ≠ nI (d + 2) := by
  intro q
  rcases h t ht with ⟨k, hk, ek, g⟩ | ⟨ek, g⟩ | ⟨ek, g⟩
  · rw [ek, nI_eq (by omega) (by omega)] at q; omega
  · rw [ek, nI_eq (by omega) (by omega)] at q; omega
  · rw [ek] at q; exact fn_ne1 (by omega) q.symm
/-- the depths -/
theorem fy_kd {post : SY → Prop} (S : fx_S sz tk ln) (Y : fy_S tk ln an yk yl th ef) (G : fy_G sz tk ln an go)
    (hp : ∀ ys' yd', fc_Dp sz tk ln an yd' → post (kn, te, fl, yk, yl, sz, th, fa, ef, go, gu, ye, yd', wa, al, yc, tr, fd, ys')) : ∃ n, wY_know_98 post (nI (fc_N sz)) n 0 kn te fl yk yl sz th fa ef go gu ye yd wa al yc tr fd ys := by
  have hz := S.1
  have hN := fc_N1 hz
  refine pk_loop (fun n i p => wY_know_98 post (nI (fc_N sz)) n (nI i) kn te fl yk yl sz th fa ef go gu ye p.2 wa al yc tr fd p.1) (fun i (p : (Nat → Int32) × (Nat → Int32)) => ∀ s, s < i → (fc_i sz tk ln s ∧ p.2 s = 0) ∨ (¬ fc_i sz tk ln s ∧ p.2 s = -1)) (fc_N sz) 0 (ys, yd) (by omega) (fun v hv => absurd hv (by omega)) (fun n p I => ?_) (fun n i p hi I k => ?_)
  · obtain ⟨ys, yd⟩ := p
    have I : ∀ s, s < fc_N sz → (fc_i sz tk ln s ∧ yd s = 0) ∨ (¬ fc_i sz tk ln s ∧ yd s = -1) := I
    refine pk_le (fc_N sz) (fc_N sz) (fun _ => ?_) (fun z => absurd z (by omega))
    refine loop_m (fun n (p : Int32 × Nat × (Nat → Int32)) => wY_know_133 post (nI (fc_N sz)) n p.1 (nI p.2.1) kn te fl yk yl sz th fa ef go gu ye p.2.2 wa al yc tr fd ys)
      (fun p => (p.1 = 0 ∧ fc_Dp sz tk ln an p.2.2) ∨ (p.1 = 1 ∧ p.2.1 ≤ fc_N sz ∧ fg_I (fc_N sz) (fc_i sz tk ln) (fc_st sz tk ln an) p.2.1 0 p.2.2 ∧ ∀ t, t < fc_N sz → p.2.2 t ≠ nI (p.2.1 + 1)))
      (fun p => if p.1 = 0 then 0 else fc_N sz + 2 - p.2.1) (fun n p J k => ?_) (1, 0, yd) (Or.inr ⟨rfl, Nat.zero_le _, fg_I0 I, fun t ht => ?_⟩)
    · obtain ⟨m, d, yd⟩ := p
      rcases J with ⟨e, J⟩ | ⟨e, J1, J2, J3⟩
      · have e : m = 0 := e
        subst e
        exact br_t rfl (hp ys yd J)
      · have e : m = 1 := e
        subst e
        have J1 : d ≤ fc_N sz := J1
        have J2 : fg_I (fc_N sz) (fc_i sz tk ln) (fc_st sz tk ln an) d 0 yd := J2
        have J3 : ∀ t, t < fc_N sz → yd t ≠ nI (d + 1) := J3
        refine br_f (show ¬ (1 : Int32) = 0 by decide) ?_
        refine pk_loop (fun n' i p => wY_know_142 post (wY_know_133 post (nI (fc_N sz)) n) (nI (fc_N sz)) (nI d) n' p.1 (nI i) kn te fl yk yl sz th fa ef go gu ye p.2 wa al yc tr fd ys) (fun i (p : Int32 × (Nat → Int32)) => fg_I (fc_N sz) (fc_i sz tk ln) (fc_st sz tk ln an) d i p.2 ∧ ((p.1 = 0 ∧ ∀ t, t < fc_N sz → p.2 t ≠ nI (d + 1)) ∨ (p.1 = 1 ∧ ∃ t, t < fc_N sz ∧ p.2 t = nI (d + 1)))) (fc_N sz) 0 (0, yd) (by omega) ⟨J2, Or.inl ⟨rfl, J3⟩⟩ (fun n' p L => ?_) (fun n' i p hi L k2 => ?_)
        · obtain ⟨m, q⟩ := p
          obtain ⟨L1, L2⟩ := L
          have L1 : fg_I (fc_N sz) (fc_i sz tk ln) (fc_st sz tk ln an) d (fc_N sz) q := L1
          refine pk_le (fc_N sz) (fc_N sz) (fun _ => nm_r (nI_1 d) ?_) (fun z => absurd z (by omega))
          have L3 := fg_en L1
          rcases L2 with ⟨e, f⟩ | ⟨e, t, ht, f⟩
          · have e : m = 0 := e
            subst e
            have f : ∀ t, t < fc_N sz → q t ≠ nI (d + 1) := f
            refine k (0, d + 1, q) (Or.inl ⟨rfl, ?_⟩) ?_
            · have no : ∀ s, ¬ fg_F (fc_N sz) (fc_i sz tk ln) (fc_st sz tk ln an) (d + 1) s := fun s z => f s (fg_Flt z) (fg_Ii L3 z)
              exact fg_fY L3 (fg_no no 1)
            · show 0 < fc_N sz + 2 - d
              omega
          · have e : m = 1 := e
            subst e
            have f : q t = nI (d + 1) := f
            have fb := fg_Fb (fg_Ie (by omega) (by omega) L3 ht f)
            refine k (1, d + 1, q) (Or.inr ⟨rfl, by show d + 1 ≤ _; omega, L3, fun t ht => fg_Ix (by omega) L1 ht⟩) ?_
            show fc_N sz + 2 - (d + 1) < fc_N sz + 2 - d
            omega
        · obtain ⟨m, q⟩ := p
          obtain ⟨L1, L2⟩ := L
          have L1 : fg_I (fc_N sz) (fc_i sz tk ln) (fc_st sz tk ln an) d i q := L1
          have L2 : (m = 0 ∧ ∀ t, t < fc_N sz → q t ≠ nI (d + 1)) ∨ (m = 1 ∧ ∃ t, t < fc_N sz ∧ q t = nI (d + 1)) := L2
          refine pk_le (fc_N sz) i (fun z => absurd z (by omega)) (fun _ => ?_)
          refine ⟨vp_in_nI (by omega) (by omega), ?_⟩
          rw [nI_clamp (by omega)]
          refine br_c (fun e => ?_) (fun e => nm_r (nI_1 i) (k2 (m, q) ⟨fg_sk L1 e, L2⟩))
          refine fy_fu hz Y G hi (by omega) (fun t ht => fx_Iv (by omega) L1 t ht) (fun dq r hq hr => ?_)
          have st := fg_st L1 (fg_Ie (by omega) (by omega) L1 hi e) hq (by omega)
          rcases hr with ⟨rfl, hr⟩ | ⟨rfl, hr⟩
          · refine br_t rfl (nm_r (nI_1 i) (k2 (m, dq) ⟨st, ?_⟩))
            rcases L2 with ⟨e, f⟩ | ⟨e, t, ht, f⟩
            · exact Or.inl ⟨e, fun t ht => by show dq t ≠ _; rw [hr t ht]; exact f t ht⟩
            · exact Or.inr ⟨e, t, ht, by show dq t = _; rw [hr t ht]; exact f⟩
          · exact br_f (by decide) (nm_r (nI_1 i) (k2 (1, dq) ⟨st, Or.inr ⟨rfl, hr⟩⟩))
    · show yd t ≠ nI 1
      rcases I t ht with ⟨_, e⟩ | ⟨_, e⟩
      · rw [e]; decide
      · rw [e]; decide
  · obtain ⟨ys, yd⟩ := p
    refine pk_le (fc_N sz) i (fun z => absurd z (by omega)) (fun _ => ?_)
    obtain ⟨h1, h2, h3⟩ := S.2.2 1 (by omega) (by omega)
    have sm := Y.1 1 (by omega)
    obtain ⟨sl, _⟩ := fc_sm_T sm
    have fin : ∀ sk' x, ((fc_i sz tk ln i ∧ x = 0) ∨ (¬ fc_i sz tk ln i ∧ x = -1)) → wY_know_98 post (nI (fc_N sz)) n (nI (i + 1)) kn te fl yk yl sz th fa ef go gu ye (upd yd i x) wa al yc tr fd sk' := by
      intro sk' x h
      refine k (sk', upd yd i x) (fun s hs => ?_)
      by_cases e : s = i
      · subst e; show (_ ∧ upd yd s x s = 0) ∨ (_ ∧ upd yd s x s = -1); rw [pk_us]; exact h
      · show (_ ∧ upd yd i x s = 0) ∨ (_ ∧ upd yd i x s = -1); rw [pk_un e]; exact I s (by omega)
    have etr : fc_tr sz yk yl 1 i = fc_tr sz tk ln 1 i := by unfold fc_tr; rw [sl, fc_sm_w sm]
    refine fy_is hz (j := 1) (by omega) hi (by rw [sl]; exact h3.imp id (fc_sm_ok sm)) (by rw [sl, sm.1]; exact h1) (by omega) (fun sk' => ?_)
    rw [nI_clamp (by omega), etr]
    cases e : fc_tr sz tk ln 1 i
    · refine br_t (by rfl) ⟨vp_in_nI (by omega) (by omega), nm_e (nm_r (nI_1 i) (fin sk' _ (Or.inr ⟨?_, rfl⟩)))⟩
      unfold fc_i; rw [e]; decide
    · refine br_f (by decide) ⟨vp_in_nI (by omega) (by omega), nm_e (nm_r (nI_1 i) (fin sk' _ (Or.inl ⟨e, rfl⟩)))⟩
/-- goes, guards and enabled up to state s, and at s up to action a -/
def fy_J (sz tk ln an : Nat → Int32) (s a : Nat) (go : Nat → Int64) (gu ye : Nat → Int32) : Prop :=
  (∀ b s' t, b < 4 → s' < fc_N sz → t < fc_N sz → fl_h go (250 * b + 2 * s') t = (decide (s' < s ∨ (s' = s ∧ b < a)) && fc_M sz tk ln an b s' t)) ∧
  (∀ s', s' < s → fb_4 (gu s') (fun a => fc_g sz tk ln a s') ∧ fb_4 (ye s') (fun a => fc_en sz tk ln an a s')) ∧ fb_4 (gu s) (fun b => decide (b < a) && fc_g sz tk ln b s) ∧ fb_4 (ye s) (fun b => decide (b < a) && fc_en sz tk ln an b s)
theorem fy_Jl {s a : Nat} {go' : Nat → Int64} {gu' ye' : Nat → Int32} (hz : fc_Z sz) (hs : s < fc_N sz) (ha : a < 4) (J : fy_J sz tk ln an s a go gu ye) (L : fy_L sz tk ln an a s go gu ye go' gu' ye') : fy_J sz tk ln an s (a + 1) go' gu' ye' := by
  have hN := fc_N1 hz
  obtain ⟨J1, J2, J3, J4⟩ := J
  obtain ⟨L1, L2, L3, L4⟩ := L
  refine ⟨fun b s' t hb hs' ht => ?_, fun s' hs' => ?_, ?_, ?_⟩
  · rw [L1 _ _ (by omega) (by omega), J1 b s' t hb hs' ht]
    by_cases e : b = a ∧ s' = s
    · obtain ⟨rfl, rfl⟩ := e
      have q1 : decide (s' < s' ∨ (s' = s' ∧ b < b)) = false := decide_eq_false (by omega)
      have q2 : decide (250 * b + 2 * s' = 250 * b + 2 * s' ∧ t < fc_N sz) = true := decide_eq_true ⟨rfl, ht⟩
      have q3 : decide (s' < s' ∨ (s' = s' ∧ b < b + 1)) = true := decide_eq_true (by omega)
      rw [q1, q2, q3]; rfl
    · have q2 : decide (250 * b + 2 * s' = 250 * a + 2 * s ∧ t < fc_N sz) = false := decide_eq_false (by omega)
      rw [q2, Bool.false_and, Bool.or_false]
      congr 1
      exact decide_eq_decide.mpr (by omega)
  · rw [(L2 s' (by omega)).1, (L2 s' (by omega)).2]
    exact J2 s' hs'
  · rw [L3]
    cases q : fc_g sz tk ln a s
    · exact fb_sf J3 q
    · exact fb_st ha J3 q
  · rw [L4]
    cases q : fc_en sz tk ln an a s
    · exact fb_sf J4 q
    · exact fb_st ha J4 q
theorem fy_Jn {s a : Nat} (h : fc_L ln (3 + a) = 0) (J : fy_J sz tk ln an s a go gu ye) : fy_J sz tk ln an s (a + 1) go gu ye := by
  obtain ⟨J1, J2, J3, J4⟩ := J
  refine ⟨fun b s' t hb hs' ht => ?_, J2, fb_sf J3 ?_, fb_sf J4 ?_⟩
  · rw [J1 b s' t hb hs' ht]
    by_cases e : b = a ∧ s' = s
    · obtain ⟨rfl, rfl⟩ := e
      rw [fy_M0 h, Bool.and_false, Bool.and_false]
    · congr 1
      exact decide_eq_decide.mpr (by omega)
  · unfold fc_g
    rw [decide_eq_false (fun k => k h), Bool.false_and]
  · exact fc_ekf (fun t => fy_M0 h) _
theorem fy_kn {post : SY → Prop} (S : fx_S sz tk ln) (Y : fy_S tk ln an yk yl th ef) (K : kn = 0 ∨ (kn = 1 ∧ fy_K sz tk ln an go gu ye yd))
    (hp : ∀ go' gu' ye' yd' ys', fy_K sz tk ln an go' gu' ye' yd' → post (1, te, fl, yk, yl, sz, th, fa, ef, go', gu', ye', yd', wa, al, yc, tr, fd, ys')) : wpY_know post (kn, te, fl, yk, yl, sz, th, fa, ef, go, gu, ye, yd, wa, al, yc, tr, fd, ys) := by
  have hz := S.1
  have hN := fc_N1 hz
  rcases K with rfl | ⟨rfl, K⟩
  · refine br_t rfl (fy_ns hz ?_)
    refine pk_loop (fun n i g => wY_know_20 post (nI (fc_N sz)) 1 te fl n (nI i) yk yl sz th fa ef g gu ye yd wa al yc tr fd ys) (fun i g => ∀ j, j < i → g j = 0) 1000 0 go (by omega) (fun v hv => absurd hv (by omega)) (fun n g I => ?_) (fun n i g hi I k => ?_)
    · refine br_t (by decide) ?_
      refine pk_loop (fun n i p => wY_know_42 post (nI (fc_N sz)) n (nI i) 1 te fl yk yl sz th fa ef p.2.1 p.2.2.1 p.2.2.2 yd wa al yc tr fd p.1) (fun i (p : (Nat → Int32) × (Nat → Int64) × (Nat → Int32) × (Nat → Int32)) => (∀ b s' t, b < 4 → s' < fc_N sz → t < fc_N sz → fl_h p.2.1 (250 * b + 2 * s') t = (decide (s' < i) && fc_M sz tk ln an b s' t)) ∧ ∀ s', s' < i → fb_4 (p.2.2.1 s') (fun a => fc_g sz tk ln a s') ∧ fb_4 (p.2.2.2 s') (fun a => fc_en sz tk ln an a s')) (fc_N sz) 0 (ys, g, gu, ye) (by omega) ⟨fun b s' t hb hs' ht => ?_, fun v hv => absurd hv (by omega)⟩ (fun n p J => ?_) (fun n i p hi J k => ?_)
      · show fl_b (g (250 * b + 2 * s' + t / 64)) (t % 64) = _
        rw [I _ (by omega), fl_0, decide_eq_false (by omega), Bool.false_and]
      · obtain ⟨ys, go, gu, ye⟩ := p
        obtain ⟨J1, J2⟩ := J
        have G : fy_G sz tk ln an go := by
          intro a s t ha hs ht
          have : fl_h go (250 * a + 2 * s) t = (decide (s < fc_N sz) && fc_M sz tk ln an a s t) := J1 a s t ha hs ht
          rw [this, decide_eq_true hs, Bool.true_and]
        refine pk_le (fc_N sz) (fc_N sz) (fun _ => ?_) (fun z => absurd z (by omega))
        exact fy_kd S Y G (fun ys' yd' hd => hp go gu ye yd' ys' ⟨G, J2, hd⟩)
      · obtain ⟨ys, go, gu, ye⟩ := p
        obtain ⟨J1, J2⟩ := J
        have J1 : ∀ b s' t, b < 4 → s' < fc_N sz → t < fc_N sz → fl_h go (250 * b + 2 * s') t = (decide (s' < i) && fc_M sz tk ln an b s' t) := J1
        have J2 : ∀ s', s' < i → fb_4 (gu s') (fun a => fc_g sz tk ln a s') ∧ fb_4 (ye s') (fun a => fc_en sz tk ln an a s') := J2
        refine pk_le (fc_N sz) i (fun z => absurd z (by omega)) (fun _ => ?_)
        refine ⟨vp_in_nI (by omega) (by omega), ?_⟩
        rw [nI_clamp (by omega)]
        refine nm_e ⟨vp_in_nI (by omega) (by omega), nm_e ?_⟩
        refine pk_loop (fun n' a p => wY_know_63 post (wY_know_42 post (nI (fc_N sz)) n) (nI (fc_N sz)) (nI i) n' (nI a) 1 te fl yk yl sz th fa ef p.2.1 p.2.2.1 p.2.2.2 yd wa al yc tr fd p.1) (fun a (p : (Nat → Int32) × (Nat → Int64) × (Nat → Int32) × (Nat → Int32)) => fy_J sz tk ln an i a p.2.1 p.2.2.1 p.2.2.2) 4 0 (ys, go, upd gu i 0, upd ye i 0) (by omega) ⟨fun b s' t hb hs' ht => ?_, fun s' hs' => ?_, ?_, ?_⟩ (fun n' p L => ?_) (fun n' a p ha L k2 => ?_)
        · show fl_h go _ _ = _
          rw [J1 b s' t hb hs' ht]
          congr 1
          exact decide_eq_decide.mpr (by omega)
        · show fb_4 (upd gu i 0 s') _ ∧ fb_4 (upd ye i 0 s') _
          rw [pk_un (by omega), pk_un (by omega)]; exact J2 s' hs'
        · show fb_4 (upd gu i 0 i) _
          rw [pk_us]; exact fb_s0
        · show fb_4 (upd ye i 0 i) _
          rw [pk_us]; exact fb_s0
        · obtain ⟨ys, go, gu, ye⟩ := p
          obtain ⟨L1, L2, L3, L4⟩ := L
          refine br_t (by decide) (nm_r (nI_1 i) (k (ys, go, gu, ye) ⟨fun b s' t hb hs' ht => ?_, fun s' hs' => ?_⟩))
          · show fl_h go _ _ = _
            rw [L1 b s' t hb hs' ht]
            congr 1
            exact decide_eq_decide.mpr (by omega)
          · by_cases e : s' = i
            · subst e; exact ⟨fb_s4 L3, fb_s4 L4⟩
            · exact L2 s' (by omega)
        · obtain ⟨ys, go, gu, ye⟩ := p
          refine pk_le 4 a (fun z => absurd z (by omega)) (fun _ => ?_)
          refine ⟨vp_in_nI (by omega) (by omega), ?_⟩
          rw [nI_clamp (by omega)]
          refine br_c (fun e => nm_r (nI_1 a) (k2 (ys, go, gu, ye) (fy_Jn ((fy_th Y ha).mp e) L))) (fun e => ?_)
          refine fy_ld S Y ha hi e (fun ys' go' gu' ye' M => ?_)
          exact nm_r (nI_1 a) (k2 (ys', go', gu', ye') (fy_Jl hz hi ha L M))
    · refine pk_le 1000 i (fun z => absurd z (by omega)) (fun _ => ?_)
      rw [nI_clamp (by omega)]
      refine ⟨vp_in_nI (by omega) (by omega), nm_e (nm_r (nI_1 i) (k _ (fun j hj => ?_)))⟩
      by_cases e : j = i
      · subst e; exact pk_uLs
      · rw [pk_uLn e]; exact I j (by omega)
  · exact br_f (by decide) (hp go gu ye yd ys K)
end FYK
end
section
section FRL
variable {sz tk ln an tq lq yk yl th ef yq lr : Nat → Int32} {go : Nat → Int64} {gu ye yd : Nat → Int32}
/-! slots that hold the same -/
theorem fs_L {j k : Nat} (h : fc_sm tk ln j tq lq k) : fc_L lq k = fc_L ln j := (fc_sm_T h).1
theorem fs_s {j k : Nat} (h : fc_sm tk ln j tq lq k) : fc_sm tq lq k tk ln j :=
  ⟨h.1.symm, fun i hi => (h.2 i (by rw [← fs_L h]; exact hi)).symm⟩
theorem fs_t {j k l : Nat} (h : fc_sm tk ln j tq lq k) (g : fc_sm tq lq k yk yl l) : fc_sm tk ln j yk yl l :=
  ⟨g.1.trans h.1, fun i hi => (g.2 i (by rw [fs_L h]; exact hi)).trans (h.2 i hi)⟩
def fx_s (tk ln : Nat → Int32) (j : Nat) : Prop := ln j = nI (fc_L ln j) ∧ fc_L ln j ≤ 12 ∧ (fc_L ln j = 0 ∨ fc_ok tk ln j)
theorem fs_m {j k : Nat} (h : fc_sm tk ln j tq lq k) (s : fx_s tk ln j) : fx_s tq lq k := by
  have e := fs_L h
  refine ⟨?_, by rw [e]; exact s.2.1, ?_⟩
  · rw [e, h.1]; exact s.1
  · rw [e]; exact s.2.2.imp id (fc_sm_ok h)
theorem fs_0 {j : Nat} (h : ln j = 0) : fx_s tk ln j := by
  have e : fc_L ln j = 0 := by unfold fc_L; rw [h]; rfl
  exact ⟨by rw [e]; exact h, by omega, Or.inl e⟩
theorem fs_l {j : Nat} (h : lq j = ln j) : fc_sm tk ln j tk lq j := ⟨h, fun _ _ => rfl⟩
theorem fs_L0 {j : Nat} (h : ln j = 0) : fc_L ln j = 0 := by unfold fc_L; rw [h]; rfl
/-- a draft taken into slot j -/
theorem fs_cj {j : Nat} (hj : 1 ≤ j) (h : fc_cp tk tq j (fc_L ln 0)) : fc_sm tk ln 0 tq (upd (upd ln j (ln 0)) 0 0) j := by
  refine ⟨?_, fun i hi => ?_⟩
  · rw [pk_un (by omega), pk_us]
  · rw [h.1 i hi, Nat.zero_mul, Nat.zero_add]
theorem fs_co {j m : Nat} (hm : 1 ≤ m) (e : m ≠ j) (hL : fc_L ln m ≤ 12) (hL0 : fc_L ln 0 ≤ 12) (h : fc_cp tk tq j (fc_L ln 0)) : fc_sm tk ln m tq (upd (upd ln j (ln 0)) 0 0) m := by
  refine ⟨?_, fun i hi => h.2 _ ?_⟩
  · rw [pk_un (by omega), pk_un e]
  · omega
theorem fs_d {m : Nat} (hm : 1 ≤ m) : fc_sm tk ln m tk (upd ln 0 0) m := fs_l (pk_un (by omega))
theorem fs_sh0 {tk ln : Nat → Int32} (h : ln 0 = 0) : fc_sh tk ln 0 := by
  have e := fs_L0 h
  exact ⟨by rw [e]; exact h, by omega, fun i hi => absurd hi (by omega)⟩
theorem fs_Z {sz tk ln : Nat → Int32} : fx_S sz tk ln ↔ fc_Z sz ∧ fc_sh tk ln 0 ∧ ∀ j, 1 ≤ j → j < 19 → fx_s tk ln j := Iff.rfl
/-- what is known does not hang on the draft -/
theorem fk_w (h : ∀ j, 1 ≤ j → j < 19 → fc_sm tk ln j tq lq j) {j : Nat} (h1 : 1 ≤ j) (h2 : j < 19) (s : Nat) : fc_w sz tq lq j s = fc_w sz tk ln j s ∧ fc_L lq j = fc_L ln j := ⟨fc_sm_w (h j h1 h2) sz s, fs_L (h j h1 h2)⟩
theorem fk_g (h : ∀ j, 1 ≤ j → j < 19 → fc_sm tk ln j tq lq j) {a : Nat} (ha : a < 4) (s : Nat) : fc_g sz tq lq a s = fc_g sz tk ln a s := by
  unfold fc_g
  rw [(fk_w h (j := 3 + a) (by omega) (by omega) s).1, (fk_w (sz := sz) h (j := 3 + a) (by omega) (by omega) s).2]
theorem fk_al (h : ∀ j, 1 ≤ j → j < 19 → fc_sm tk ln j tq lq j) {a v : Nat} (ha : a < 4) (hv : v < 3) (s x : Nat) : fc_al sz tq lq an a v s x = fc_al sz tk ln an a v s x := by
  unfold fc_al
  rw [(fk_w h (j := 7 + (a * 3 + v)) (by omega) (by omega) s).1, (fk_w (sz := sz) h (j := 7 + (a * 3 + v)) (by omega) (by omega) s).2]
theorem fk_M (h : ∀ j, 1 ≤ j → j < 19 → fc_sm tk ln j tq lq j) {a : Nat} (ha : a < 4) (s t : Nat) : fc_M sz tq lq an a s t = fc_M sz tk ln an a s t := by
  unfold fc_M
  rw [fk_g h ha, fk_al h ha (by omega), fk_al h ha (by omega), fk_al h ha (by omega)]
theorem fk_st (h : ∀ j, 1 ≤ j → j < 19 → fc_sm tk ln j tq lq j) : fc_st sz tq lq an = fc_st sz tk ln an := by
  funext s t
  unfold fc_st
  apply propext
  constructor
  · rintro ⟨e, a, ha, m⟩; exact ⟨e, a, ha, by rw [← fk_M h ha]; exact m⟩
  · rintro ⟨e, a, ha, m⟩; exact ⟨e, a, ha, by rw [fk_M h ha]; exact m⟩
theorem fk_i (h : ∀ j, 1 ≤ j → j < 19 → fc_sm tk ln j tq lq j) : fc_i sz tq lq = fc_i sz tk ln := by
  funext s
  unfold fc_i fc_tr
  rw [(fk_w h (j := 1) (by omega) (by omega) s).1, (fk_w (sz := sz) h (j := 1) (by omega) (by omega) s).2]
theorem fk_ek {M M' : Nat → Nat → Nat → Bool} {a s : Nat} (h : ∀ t, M a s t = M' a s t) : ∀ k, fc_ek M a s k = fc_ek M' a s k := by
  intro k
  induction k with
  | zero => rfl
  | succ k ih =>
    show (fc_ek M a s k || (decide (k ≠ s) && M a s k)) = (fc_ek M' a s k || (decide (k ≠ s) && M' a s k))
    rw [ih, h k]
theorem fk_K (h : ∀ j, 1 ≤ j → j < 19 → fc_sm tk ln j tq lq j) (K : fy_K sz tk ln an go gu ye yd) : fy_K sz tq lq an go gu ye yd := by
  obtain ⟨k1, k2, k3⟩ := K
  refine ⟨fun a s t ha hs ht => ?_, fun s hs => ⟨fb_cg (k2 s hs).1 (fun a ha => (fk_g h ha s).symm), fb_cg (k2 s hs).2 (fun a ha => ?_)⟩, ?_⟩
  · rw [k1 a s t ha hs ht, fk_M h ha]
  · unfold fc_en
    exact (fk_ek (fun t => fk_M h ha s t) _).symm
  · unfold fc_Dp
    rw [fk_st h, fk_i h]; exact k3
end FRL
section FRR
/-! the relation -/
def fr_T (tl te : Int32) (ts tr : Nat → Int32) : Prop := ∃ m, m ≤ 125 ∧ tl = nI m ∧ te = nI m + (-1) ∧ ∀ j, j < m → ts j = tr j
def fr_F (fc fl : Int32) (fs fd : Nat → Int32) : Prop := ∃ m, m ≤ 125 ∧ fc = nI m ∧ fl = nI m ∧ ∀ j, j < m → fs j = fd j
def fr_f (fa : Nat → Int32) : Prop := ∀ a, a < 4 → fa a = 0 ∨ fa a = 1 ∨ fa a = 2
def fr_k (kn : Int32) (sz tk ln an : Nat → Int32) (go : Nat → Int64) (gu ye yd : Nat → Int32) : Prop := kn = 0 ∨ (kn = 1 ∧ fy_K sz tk ln an go gu ye yd)
def i_Rel (k : Nat) (u : SX) (v : SY) : Prop := match u, v with
  | (tl, fc, sz, tk, ln, an, fa, sk, lw, hg, mv, en, dp, ca, rc, re, ho, ae, ta, ow, ts, fs), (kn, te, fl, yk, yl, vs, th, yf, ef, go, gu, ye, yd, wa, al, yc, tr, fd, ys) =>
    sz = vs ∧ fa = yf ∧ fx_S sz tk ln ∧ fy_S tk ln an yk yl th ef ∧ fr_f fa ∧ fr_k kn sz tk ln an go gu ye yd ∧ fr_T tl te ts tr ∧ fr_F fc fl fs fd
theorem i_up {k : Nat} {u : SX} {v : SY} (h : i_Rel k u v) : i_Rel (k + 4) u v := h
def fr_1 : Nat → Int32 := upd (upd (upd (fun _ => 0) 0 1) 1 1) 2 1
theorem fx_i0 {post : SX → Prop} (h : post (0, 0, fr_1, (fun _ => 0), (fun _ => 0), (fun _ => 0), (fun _ => 0), (fun _ => 0), (fun _ => 0), (fun _ => 0), (fun _ => 0), (fun _ => 0), (fun _ => 0), (fun _ => 0), (fun _ => 0), (fun _ => 0), (fun _ => 0), (fun _ => 0), (fun _ => 0), (fun _ => 0), (fun _ => 0), (fun _ => 0))) : wpX_init post := by
  refine ⟨4, ?_⟩
  refine br_f (by decide) ⟨vp_in_nI (n := 0) (by omega) (by omega), nm_e (nm_r (nI_1 0) ?_)⟩
  refine br_f (by decide) ⟨vp_in_nI (n := 1) (by omega) (by omega), nm_e (nm_r (nI_1 1) ?_)⟩
  refine br_f (by decide) ⟨vp_in_nI (n := 2) (by omega) (by omega), nm_e (nm_r (nI_1 2) ?_)⟩
  exact br_t (by decide) h
theorem fy_i0 {post : SY → Prop} (h : post (0, (-1), 0, (fun _ => 0), (fun _ => 0), fr_1, (fun _ => 0), (fun _ => 0), (fun _ => 0), (fun _ => 0), (fun _ => 0), (fun _ => 0), (fun _ => 0), (fun _ => 0), (fun _ => 0), (fun _ => 0), (fun _ => 0), (fun _ => 0), (fun _ => 0))) : wpY_init post := by
  refine ⟨4, ?_⟩
  refine br_f (by decide) ⟨vp_in_nI (n := 0) (by omega) (by omega), nm_e (nm_r (nI_1 0) ?_)⟩
  refine br_f (by decide) ⟨vp_in_nI (n := 1) (by omega) (by omega), nm_e (nm_r (nI_1 1) ?_)⟩
  refine br_f (by decide) ⟨vp_in_nI (n := 2) (by omega) (by omega), nm_e (nm_r (nI_1 2) ?_)⟩
  exact br_t (by decide) h
theorem fr_1v : ∀ v, v < 3 → fr_1 v = nI 1 := by decide
theorem i_vc0 : wpX_init (fun u => wpY_init (fun v => i_Rel 0 u v)) := by
  refine fx_i0 (fy_i0 ⟨rfl, rfl, fs_Z.mpr ⟨fun v hv => ?_, fs_sh0 rfl, fun j _ _ => fs_0 rfl⟩, ⟨fun j _ => ⟨rfl, fun _ _ => rfl⟩, fun a _ => Or.inl ⟨rfl, fs_L0 rfl⟩⟩, fun a _ => Or.inl rfl, Or.inl rfl, ⟨0, by omega, rfl, by decide, fun j hj => absurd hj (by omega)⟩, ⟨0, by omega, rfl, rfl, fun j hj => absurd hj (by omega)⟩⟩)
  have e : fc_z fr_1 v = 1 := by unfold fc_z; rw [fr_1v v hv]; rfl
  rw [e]
  exact ⟨fr_1v v hv, by omega, by omega⟩
end FRR
end
section
section FSM
variable {tl fc : Int32} {sz tk ln an fa sk lw hg mv en dp ca rc : Nat → Int32} {re : Nat → Int64} {ho ae ta ow ts fs : Nat → Int32} {kn te fl : Int32} {yk yl th ef : Nat → Int32} {go : Nat → Int64} {gu ye yd : Nat → Int32} {wa al yc : Nat → Int64} {tr fd ys : Nat → Int32}
theorem fn_iv (x : Int32) : x.toInt < 2 ^ 31 := Int32.toInt_lt x
theorem fn_32 (x : Int32) : 3 ≤ x ↔ 2 < x := by
  have h3 : (3 : Int32).toInt = 3 := by decide
  have h2 : (2 : Int32).toInt = 2 := by decide
  rw [Int32.le_iff_toInt_le, Int32.lt_iff_toInt_lt, h3, h2]; omega
theorem fn_43 (x : Int32) : 4 ≤ x ↔ 3 < x := by
  have h3 : (4 : Int32).toInt = 4 := by decide
  have h2 : (3 : Int32).toInt = 3 := by decide
  rw [Int32.le_iff_toInt_le, Int32.lt_iff_toInt_lt, h3, h2]; omega
theorem fn_nl {x y : Int32} : ¬ x ≤ y ↔ y < x := Int32.not_le
theorem i_vc_variable {k : Nat} {u : SX} {v : SY} (I : i_Rel k u v) (hk : k + 4 ≤ 2048) (v1 : Int32) (v2 : Int32) : wpX_variable (fun r u' => wpY_variable (fun r' v' => r' = r ∧ i_Rel (k + 4) u' v') v v1 v2) u v1 v2 := by
  obtain ⟨tl, fc, sz, tk, ln, an, fa, sk, lw, hg, mv, en, dp, ca, rc, re, ho, ae, ta, ow, ts, fs⟩ := u
  obtain ⟨kn, te, fl, yk, yl, vs, th, yf, ef, go, gu, ye, yd, wa, al, yc, tr, fd, ys⟩ := v
  obtain ⟨rfl, rfl, S, Y, Fa, K, T, F⟩ := I
  have y0 : (v1 < 0 ∨ 2 < v1 ∨ v2 < 1 ∨ 5 < v2) → ∀ {post : Int32 → SY → Prop}, post 0 (kn, te, fl, yk, yl, sz, th, fa, ef, go, gu, ye, yd, wa, al, yc, tr, fd, ys) → wpY_variable post (kn, te, fl, yk, yl, sz, th, fa, ef, go, gu, ye, yd, wa, al, yc, tr, fd, ys) v1 v2 := by
    intro h post hp
    unfold wpY_variable
    refine fy_in (fun a b => br_f (by decide) (fy_in (fun c d => ?_) (fun _ => br_t rfl hp))) (fun _ => br_t rfl hp)
    exact absurd h (by rintro (h | h | h | h) <;> contradiction)
  have R : i_Rel (k + 4) (tl, fc, sz, tk, ln, an, fa, sk, lw, hg, mv, en, dp, ca, rc, re, ho, ae, ta, ow, ts, fs) (kn, te, fl, yk, yl, sz, th, fa, ef, go, gu, ye, yd, wa, al, yc, tr, fd, ys) := ⟨rfl, rfl, S, Y, Fa, K, T, F⟩
  refine br_c (fun h => y0 (Or.inl h) ⟨rfl, R⟩) (fun a1 => br_c (fun h => y0 (Or.inr (Or.inl ((fn_32 _).mp h))) ⟨rfl, R⟩) (fun a2 => br_c (fun h => y0 (Or.inr (Or.inr (Or.inl h))) ⟨rfl, R⟩) (fun a3 => br_c (fun a4 => ?_) (fun h => y0 (Or.inr (Or.inr (Or.inr (fn_nl.mp h)))) ⟨rfl, R⟩))))
  obtain ⟨j, hj, rfl⟩ := nI_of (x := v1) a1
  have hj3 : j < 3 := by
    have := fn_nl.mp a2
    rw [show (3 : Int32) = nI 3 from rfl, nI_ltI hj (by omega)] at this; exact this
  obtain ⟨m, hm, rfl⟩ := nI_of (x := v2) (fun z => a3 (Int32.lt_trans z (by decide)))
  have hm1 : 1 ≤ m := by
    rw [show (1 : Int32) = nI 1 from rfl, nI_ltI hm (by omega)] at a3; omega
  have hm5 : m ≤ 5 := by
    rw [show (5 : Int32) = nI 5 from rfl, nI_leI hm (by omega)] at a4; exact a4
  rw [nI_clamp hj]
  refine ⟨vp_in_nI hj3 (by omega), nm_e ?_⟩
  unfold wpY_variable
  refine fy_in (fun _ _ => br_f (by decide) (fy_in (fun _ _ => br_f (by decide) ⟨vp_in_nI hj3 (by omega), ?_⟩) (fun z => absurd z ?_))) (fun z => absurd z ?_)
  · rw [nI_clamp hj]
    refine nm_e ⟨rfl, rfl, rfl, ⟨fun w hw => ?_, S.2⟩, Y, Fa, Or.inl rfl, T, F⟩
    unfold fc_z
    by_cases e : w = j
    · subst e
      rw [pk_us, nI_clamp hm]
      exact ⟨rfl, hm1, hm5⟩
    · rw [pk_un e]
      exact S.1 w hw
  · rintro (z | z)
    · exact a3 z
    · exact fn_nl.mpr z a4
  · rintro (z | z)
    · exact a1 z
    · exact a2 ((fn_32 _).mpr z)
end FSM
end
section
section FS2
variable {tl fc : Int32} {sz tk ln an fa sk lw hg mv en dp ca rc : Nat → Int32} {re : Nat → Int64} {ho ae ta ow ts fs : Nat → Int32} {kn te fl : Int32} {yk yl th ef : Nat → Int32} {go : Nat → Int64} {gu ye yd : Nat → Int32} {wa al yc : Nat → Int64} {tr fd ys : Nat → Int32}
theorem fy_ni {post : Int32 → Prop} {j a b : Nat} (ha : a ≤ j) (hb : j ≤ b) (h31 : b < 2 ^ 31) (h : post 1) : wpY_in post (nI j) (nI a) (nI b) := by
  refine fy_in (fun _ _ => h) (fun z => absurd z ?_)
  rintro (z | z)
  · rw [nI_ltI (by omega) (by omega)] at z; omega
  · rw [nI_ltI (by omega) (by omega)] at z; omega
theorem fy_no {post : Int32 → Prop} {x : Int32} (hx : x < 0 ∨ nI 4 ≤ x) (h : post 0) : wpY_in post x 0 3 := by
  refine fy_in (fun a b => absurd hx ?_) (fun _ => h)
  rintro (z | z)
  · exact a z
  · exact b ((fn_43 x).mp z)
theorem i_vc_fair {k : Nat} {u : SX} {v : SY} (I : i_Rel k u v) (hk : k + 4 ≤ 2048) (v1 : Int32) (v2 : Int32) : wpX_fair (fun r u' => wpY_fair (fun r' v' => r' = r ∧ i_Rel (k + 4) u' v') v v1 v2) u v1 v2 := by
  obtain ⟨tl, fc, sz, tk, ln, an, fa, sk, lw, hg, mv, en, dp, ca, rc, re, ho, ae, ta, ow, ts, fs⟩ := u
  obtain ⟨kn, te, fl, yk, yl, vs, th, yf, ef, go, gu, ye, yd, wa, al, yc, tr, fd, ys⟩ := v
  obtain ⟨rfl, rfl, S, Y, Fa, K, T, F⟩ := I
  have R : i_Rel (k + 4) (tl, fc, sz, tk, ln, an, fa, sk, lw, hg, mv, en, dp, ca, rc, re, ho, ae, ta, ow, ts, fs) (kn, te, fl, yk, yl, sz, th, fa, ef, go, gu, ye, yd, wa, al, yc, tr, fd, ys) := ⟨rfl, rfl, S, Y, Fa, K, T, F⟩
  unfold wpX_fair wpY_fair
  dsimp only
  rcases pk_ix v1 (n := 4) (by omega) with h | h | ⟨j, hj, rfl⟩
  · exact fx_itn (Or.inl h) (br_t rfl (fy_no (Or.inl h) (br_t rfl ⟨rfl, R⟩)))
  · exact fx_itn (Or.inr h) (br_t rfl (fy_no (Or.inr h) (br_t rfl ⟨rfl, R⟩)))
  · obtain ⟨h1, h2, h3⟩ := S.2.2 (3 + j) (by omega) (by omega)
    rw [nI_clamp (by omega)]
    refine fx_it hj h1 h2 (fun z => br_f (by decide) ?_) (fun z => br_t rfl (fy_ni (a := 0) (b := 3) (by omega) (by omega) (by omega) (br_f (by decide) ⟨vp_in_nI hj (by omega), br_t ((fy_th Y hj).mpr z) ⟨rfl, R⟩⟩)))
    have hth : ¬ th j = 0 := fun w => z ((fy_th Y hj).mp w)
    have y0 : ∀ {post : Int32 → SY → Prop}, (v2 < 0 ∨ 2 < v2) → post 0 (kn, te, fl, yk, yl, sz, th, fa, ef, go, gu, ye, yd, wa, al, yc, tr, fd, ys) → wpY_in (fun r_1 => (r_1 = 0 → post 0 (kn, te, fl, yk, yl, sz, th, fa, ef, go, gu, ye, yd, wa, al, yc, tr, fd, ys)) ∧ (¬ r_1 = 0 → vp_in (nI j) 4 ∧ ((th j = 0 → post 0 (kn, te, fl, yk, yl, sz, th, fa, ef, go, gu, ye, yd, wa, al, yc, tr, fd, ys)) ∧ (¬ th j = 0 → wpY_in (fun r_5 => (r_5 = 0 → post 0 (kn, te, fl, yk, yl, sz, th, fa, ef, go, gu, ye, yd, wa, al, yc, tr, fd, ys)) ∧ (¬ r_5 = 0 → vp_in (nI j) 4 ∧ (∀ a_fairness_8 : Nat → Int32, a_fairness_8 = upd fa j v2 → post 1 (kn, te, fl, yk, yl, sz, th, a_fairness_8, ef, go, gu, ye, yd, wa, al, yc, tr, fd, ys)))) v2 0 2)))) (nI j) 0 3 := by
      intro post hv hp
      refine fy_ni (a := 0) (b := 3) (by omega) (by omega) (by omega) (br_f (by decide) ⟨vp_in_nI hj (by omega), br_f hth (fy_in (fun a b => absurd hv ?_) (fun _ => br_t rfl hp))⟩)
      rintro (w | w)
      · exact a w
      · exact b w
    refine br_c (fun w => y0 (post := fun r' v' => r' = 0 ∧ i_Rel (k + 4) (tl, fc, sz, tk, ln, an, fa, sk, lw, hg, mv, en, dp, ca, rc, re, ho, ae, ta, ow, ts, fs) v') (Or.inl w) ⟨rfl, R⟩) (fun w => br_c (fun w2 => ⟨vp_in_nI hj (by omega), nm_e ?_⟩) (fun w2 => y0 (post := fun r' v' => r' = 0 ∧ i_Rel (k + 4) (tl, fc, sz, tk, ln, an, fa, sk, lw, hg, mv, en, dp, ca, rc, re, ho, ae, ta, ow, ts, fs) v') (Or.inr (fn_nl.mp w2)) ⟨rfl, R⟩))
    refine fy_ni (a := 0) (b := 3) (by omega) (by omega) (by omega) (br_f (by decide) ⟨vp_in_nI hj (by omega), br_f hth (fy_in (fun a b => br_f (by decide) ⟨vp_in_nI hj (by omega), nm_e ?_⟩) (fun q => absurd q ?_))⟩)
    · refine ⟨rfl, rfl, rfl, S, Y, fun a ha => ?_, K, T, F⟩
      by_cases e : a = j
      · subst e
        rw [pk_us]
        obtain ⟨m, hm, rfl⟩ := nI_of (x := v2) w
        rw [show (2 : Int32) = nI 2 from rfl, nI_leI hm (by omega)] at w2
        rcases (show m = 0 ∨ m = 1 ∨ m = 2 by omega) with rfl | rfl | rfl
        · exact Or.inl rfl
        · exact Or.inr (Or.inl rfl)
        · exact Or.inr (Or.inr rfl)
      · rw [pk_un e]; exact Fa a ha
    · rintro (q | q)
      · exact w q
      · exact fn_nl.mpr q w2
theorem i_vc_drop {k : Nat} {u : SX} {v : SY} (I : i_Rel k u v) (hk : k + 4 ≤ 2048) (v1 : Int32) : wpX_drop (fun r u' => wpY_drop (fun r' v' => r' = r ∧ i_Rel (k + 4) u' v') v v1) u v1 := by
  obtain ⟨tl, fc, sz, tk, ln, an, fa, sk, lw, hg, mv, en, dp, ca, rc, re, ho, ae, ta, ow, ts, fs⟩ := u
  obtain ⟨kn, te, fl, yk, yl, vs, th, yf, ef, go, gu, ye, yd, wa, al, yc, tr, fd, ys⟩ := v
  obtain ⟨rfl, rfl, S, Y, Fa, K, T, F⟩ := I
  have R : i_Rel (k + 4) (tl, fc, sz, tk, ln, an, fa, sk, lw, hg, mv, en, dp, ca, rc, re, ho, ae, ta, ow, ts, fs) (kn, te, fl, yk, yl, sz, th, fa, ef, go, gu, ye, yd, wa, al, yc, tr, fd, ys) := ⟨rfl, rfl, S, Y, Fa, K, T, F⟩
  unfold wpX_drop wpY_drop
  dsimp only
  rcases pk_ix v1 (n := 4) (by omega) with h | h | ⟨j, hj, rfl⟩
  · exact fx_itn (Or.inl h) (br_t rfl (fy_no (Or.inl h) (br_t rfl ⟨rfl, R⟩)))
  · exact fx_itn (Or.inr h) (br_t rfl (fy_no (Or.inr h) (br_t rfl ⟨rfl, R⟩)))
  · obtain ⟨h1, h2, h3⟩ := S.2.2 (3 + j) (by omega) (by omega)
    have hx : 3 + nI j = nI (3 + j) := nI_add 3 j
    rw [hx, nI_clamp (by omega), nI_clamp (by omega)]
    refine fx_it hj h1 h2 (fun z => br_f (by decide) ⟨vp_in_nI (by omega) (by omega), nm_e ?_⟩) (fun z => br_t rfl (fy_ni (a := 0) (b := 3) (by omega) (by omega) (by omega) (br_f (by decide) ⟨vp_in_nI hj (by omega), br_t ((fy_th Y hj).mpr z) ⟨rfl, R⟩⟩)))
    have hth : ¬ th j = 0 := fun w => z ((fy_th Y hj).mp w)
    refine fy_ni (a := 0) (b := 3) (by omega) (by omega) (by omega) (br_f (by decide) ⟨vp_in_nI hj (by omega), br_f hth ⟨vp_in_nI hj (by omega), nm_e ?_⟩⟩)
    rw [fn_b0]
    have sm : ∀ m, m ≠ 3 + j → fc_sm tk ln m tk (upd ln (3 + j) 0) m := fun m e => fs_l (pk_un e)
    have lm : ∀ m, m ≠ 3 + j → fc_L (upd ln (3 + j) 0) m = fc_L ln m := fun m e => fs_L (sm m e)
    refine ⟨rfl, rfl, rfl, fs_Z.mpr ⟨S.1, fc_sm_sh (sm 0 (by omega)) S.2.1, fun m hm hm2 => ?_⟩, ⟨fun m hm => fs_t (fs_s (sm m (by omega))) (Y.1 m hm), fun a ha => ?_⟩, Fa, Or.inl rfl, T, F⟩
    · by_cases e : m = 3 + j
      · subst e; exact fs_0 pk_us
      · exact fs_m (sm m e) (S.2.2 m hm hm2)
    · by_cases e : a = j
      · subst e
        exact Or.inl ⟨pk_us, fs_L0 pk_us⟩
      · rw [pk_un e]
        rcases Y.2 a ha with ⟨q1, q2⟩ | ⟨q1, q2, q3, q4⟩
        · exact Or.inl ⟨q1, by rw [lm _ (by omega)]; exact q2⟩
        · refine Or.inr ⟨q1, by rw [lm _ (by omega)]; exact q2, fs_t (fs_s (sm _ (by omega))) q3, fun v hv => ?_⟩
          unfold fy_e
          rw [lm (7 + (a * 3 + v)) (by omega)]
          rcases q4 v hv with q | ⟨w1, w2, w3⟩ | q
          · exact Or.inl q
          · exact Or.inr (Or.inl ⟨w1, w2, fs_t (fs_s (sm _ (by omega))) w3⟩)
          · exact Or.inr (Or.inr q)
theorem i_vc_failing {k : Nat} {u : SX} {v : SY} (I : i_Rel k u v) (hk : k + 4 ≤ 2048) (v1 : Int32) : wpX_failing (fun r => wpY_failing (fun r' => r' = r ∧ i_Rel (k + 4) u v) v v1) u v1 := by
  obtain ⟨tl, fc, sz, tk, ln, an, fa, sk, lw, hg, mv, en, dp, ca, rc, re, ho, ae, ta, ow, ts, fs⟩ := u
  obtain ⟨kn, te, fl, yk, yl, vs, th, yf, ef, go, gu, ye, yd, wa, al, yc, tr, fd, ys⟩ := v
  have R := I
  obtain ⟨rfl, rfl, S, Y, Fa, K, T, m, hm, rfl, rfl, hf⟩ := I
  refine br_c (fun z => br_t z ⟨rfl, R⟩) (fun z => br_c (fun w => br_f z (br_f (fun q => Int32.not_lt.mpr w q) ⟨rfl, R⟩)) (fun w => ?_))
  obtain ⟨j, hj, rfl⟩ := nI_of (x := v1) z
  rw [nI_leI (by omega) hj] at w
  rw [nI_clamp hj]
  refine ⟨vp_in_nI (by omega) (by omega), br_f z (br_t (nI_lt (by omega) (by omega)) ⟨vp_in_nI (by omega) (by omega), ?_, R⟩)⟩
  rw [nI_clamp hj, hf j (by omega)]
theorem i_vc_trace {k : Nat} {u : SX} {v : SY} (I : i_Rel k u v) (hk : k + 4 ≤ 2048) (v1 : Int32) : wpX_trace (fun r => wpY_trace (fun r' => r' = r ∧ i_Rel (k + 4) u v) v v1) u v1 := by
  obtain ⟨tl, fc, sz, tk, ln, an, fa, sk, lw, hg, mv, en, dp, ca, rc, re, ho, ae, ta, ow, ts, fs⟩ := u
  obtain ⟨kn, te, fl, yk, yl, vs, th, yf, ef, go, gu, ye, yd, wa, al, yc, tr, fd, ys⟩ := v
  have R := I
  obtain ⟨rfl, rfl, S, Y, Fa, K, ⟨m, hm, rfl, rfl, ht⟩, F⟩ := I
  refine br_c (fun z => br_t z ⟨rfl, R⟩) (fun z => ?_)
  obtain ⟨j, hj, rfl⟩ := nI_of (x := v1) z
  have hle : nI j ≤ nI m + (-1) ↔ j < m := by
    cases m with
    | zero =>
      constructor
      · intro q
        exact absurd (Int32.le_trans (nI_pos' hj) q) (by decide)
      · intro q; omega
    | succ m =>
      rw [pk_m1, nI_leI hj (by omega)]; omega
  refine br_c (fun w => br_f z (br_f (fun q => ?_) ⟨rfl, R⟩)) (fun w => ?_)
  · rw [nI_leI (by omega) hj] at w
    have := hle.mp q
    omega
  · rw [nI_leI (by omega) hj] at w
    rw [nI_clamp hj]
    refine ⟨vp_in_nI (by omega) (by omega), br_f z (br_t (hle.mpr (by omega)) ⟨vp_in_nI (by omega) (by omega), ?_, R⟩)⟩
    rw [nI_clamp hj, ht j (by omega)]
/-! token -/
def fc_nI (t : Int32) : Prop := (¬ t < 0 ∧ ¬ 4 < t) ∨ (¬ t < 10 ∧ ¬ 12 < t) ∨ (¬ t < 20 ∧ ¬ 28 < t)
theorem fc_nIm {t : Int32} (h : fc_nI t) : fc_nm t := by
  have h0 : ¬ t < 0 := by
    rcases h with h | h | h
    · exact h.1
    · exact fun z => h.1 (Int32.lt_trans z (by decide))
    · exact fun z => h.1 (Int32.lt_trans z (by decide))
  obtain ⟨c, hc, rfl⟩ := nI_of h0
  refine ⟨c, rfl, ?_⟩
  unfold fc_nI at h
  rw [show (4 : Int32) = nI 4 from rfl, show (10 : Int32) = nI 10 from rfl, show (12 : Int32) = nI 12 from rfl, show (20 : Int32) = nI 20 from rfl, show (28 : Int32) = nI 28 from rfl, nI_ltI (by omega) hc, nI_ltI (by omega) hc, nI_ltI (by omega) hc, nI_ltI hc (by omega), nI_ltI hc (by omega)] at h
  unfold fc_nc
  omega
theorem fx_tok {post : Int32 → SX → Prop} {t : Int32} (h1 : fc_nI t → wX_token_65 post t tl fc sz tk ln an fa sk lw hg mv en dp ca rc re ho ae ta ow ts fs) (h0 : ¬ fc_nI t → post (-1) (tl, fc, sz, tk, ln, an, fa, sk, lw, hg, mv, en, dp, ca, rc, re, ho, ae, ta, ow, ts, fs)) : wpX_token post (tl, fc, sz, tk, ln, an, fa, sk, lw, hg, mv, en, dp, ca, rc, re, ho, ae, ta, ow, ts, fs) t := by
  have s50 : ∀ x2 x3 z0 : Int32, (x2 ≠ 0 ∨ x3 ≠ 0 ∨ z0 ≠ 0 → fc_nI t) → (x2 = 0 → x3 = 0 → z0 = 0 → ¬ fc_nI t) → wX_token_50 post t x2 x3 z0 tl fc sz tk ln an fa sk lw hg mv en dp ca rc re ho ae ta ow ts fs :=
    fun x2 x3 z0 f g => br_c (fun a => br_c (fun b => br_c (fun c => h0 (g a b c)) (fun c => h1 (f (Or.inr (Or.inr c))))) (fun b => h1 (f (Or.inr (Or.inl b))))) (fun a => h1 (f (Or.inl a)))
  have s32 : ∀ x2 z0 : Int32, (x2 ≠ 0 ∨ z0 ≠ 0 → fc_nI t) → (x2 = 0 → z0 = 0 → (t < 20 ∨ 28 < t) → ¬ fc_nI t) → wX_token_32 post t x2 z0 tl fc sz tk ln an fa sk lw hg mv en dp ca rc re ho ae ta ow ts fs :=
    fun x2 z0 f g => br_c (fun a => s50 x2 z0 0 (fun q => f (q.imp id (fun w => w.elim id (fun w => absurd rfl w)))) (fun p q _ => g p q (Or.inl a)))
      (fun a => br_c (fun b => s50 x2 z0 0 (fun q => f (q.imp id (fun w => w.elim id (fun w => absurd rfl w)))) (fun p q _ => g p q (Or.inr b)))
      (fun b => s50 x2 z0 1 (fun _ => Or.inr (Or.inr ⟨a, b⟩)) (fun _ _ w => absurd w (by decide))))
  have s14 : ∀ z0 : Int32, (z0 ≠ 0 → fc_nI t) → (z0 = 0 → (t < 10 ∨ 12 < t) → (t < 20 ∨ 28 < t) → ¬ fc_nI t) → wX_token_14 post t z0 tl fc sz tk ln an fa sk lw hg mv en dp ca rc re ho ae ta ow ts fs :=
    fun z0 f g => br_c (fun a => s32 z0 0 (fun q => f (q.elim id (fun w => absurd rfl w))) (fun p _ w => g p (Or.inl a) w))
      (fun a => br_c (fun b => s32 z0 0 (fun q => f (q.elim id (fun w => absurd rfl w))) (fun p _ w => g p (Or.inr b) w))
      (fun b => s32 z0 1 (fun _ => Or.inr (Or.inl ⟨a, b⟩)) (fun _ w => absurd w (by decide))))
  have no : (t < 0 ∨ 4 < t) → (t < 10 ∨ 12 < t) → (t < 20 ∨ 28 < t) → ¬ fc_nI t := by
    rintro a b c (h | h | h)
    · exact a.elim h.1 h.2
    · exact b.elim h.1 h.2
    · exact c.elim h.1 h.2
  exact br_c (fun a => s14 0 (fun q => absurd rfl q) (fun _ b c => no (Or.inl a) b c)) (fun a => br_c (fun b => s14 0 (fun q => absurd rfl q) (fun _ c d => no (Or.inr b) c d)) (fun b => s14 1 (fun _ => Or.inl ⟨a, b⟩) (fun w => absurd w (by decide))))
theorem fy_tok {post : Int32 → SY → Prop} {t : Int32} (h1 : fc_nI t → wY_token_36 post t 1 kn te fl yk yl sz th fa ef go gu ye yd wa al yc tr fd ys) (h0 : ¬ fc_nI t → post (-1) (kn, te, fl, yk, yl, sz, th, fa, ef, go, gu, ye, yd, wa, al, yc, tr, fd, ys)) : wpY_token post (kn, te, fl, yk, yl, sz, th, fa, ef, go, gu, ye, yd, wa, al, yc, tr, fd, ys) t := by
  unfold wpY_token
  refine fy_in (fun a b => br_f (by decide) (h1 (Or.inl ⟨a, b⟩))) (fun a => br_t rfl ?_)
  refine fy_in (fun a b => br_f (by decide) (h1 (Or.inr (Or.inl ⟨a, b⟩)))) (fun b => br_t rfl ?_)
  refine fy_in (fun a b => br_f (by decide) (h1 (Or.inr (Or.inr ⟨a, b⟩)))) (fun c => br_t rfl (br_t rfl (h0 ?_)))
  rintro (h | h | h)
  · exact a.elim h.1 h.2
  · exact b.elim h.1 h.2
  · exact c.elim h.1 h.2
theorem fs_tk {tk ln : Nat → Int32} {t : Int32} (h : fc_sh tk ln 0) (hL : fc_L ln 0 < 12) (hn : fc_nm t) : fc_sh (upd tk (fc_L ln 0) t) (upd ln 0 (nI (fc_L ln 0 + 1))) 0 := by
  have e : fc_L (upd ln 0 (nI (fc_L ln 0 + 1))) 0 = fc_L ln 0 + 1 := by
    show (upd ln 0 (nI (fc_L ln 0 + 1)) 0).toNatClampNeg = _
    rw [pk_us, nI_clamp (by omega)]
  refine ⟨by rw [e, pk_us], by omega, fun i hi => ?_⟩
  rw [e] at hi
  rw [Nat.zero_mul, Nat.zero_add]
  by_cases q : i = fc_L ln 0
  · rw [q, pk_us]; exact hn
  · rw [pk_un q]
    have := h.2.2 i (by omega)
    rw [Nat.zero_mul, Nat.zero_add] at this
    exact this
theorem fs_tm {tk ln : Nat → Int32} {t x : Int32} {m : Nat} (hm : 1 ≤ m) (hL : fc_L ln 0 < 12) : fc_sm tk ln m (upd tk (fc_L ln 0) t) (upd ln 0 x) m :=
  ⟨pk_un (by omega), fun i _ => pk_un (by omega)⟩
theorem fy_Sc {tq lq yq lr : Nat → Int32} (hX : ∀ m, 1 ≤ m → m < 19 → fc_sm tk ln m tq lq m) (hY : ∀ m, 1 ≤ m → m < 19 → fc_sm yk yl m yq lr m) (h0 : fc_sm tq lq 0 yq lr 0) (Y : fy_S tk ln an yk yl th ef) : fy_S tq lq an yq lr th ef := by
  refine ⟨fun j hj => ?_, fun a ha => ?_⟩
  · by_cases e : j = 0
    · subst e; exact h0
    · exact fs_t (fs_s (hX j (by omega) (by omega))) (fs_t (Y.1 j hj) (hY j (by omega) (by omega)))
  · have l1 := fs_L (hX (3 + a) (by omega) (by omega))
    rcases Y.2 a ha with ⟨q1, q2⟩ | ⟨q1, q2, q3, q4⟩
    · exact Or.inl ⟨q1, by rw [l1]; exact q2⟩
    · refine Or.inr ⟨q1, by rw [l1]; exact q2, fs_t (fs_s (hX _ (by omega) (by omega))) (fs_t q3 (hY _ (by omega) (by omega))), fun v hv => ?_⟩
      unfold fy_e
      rw [fs_L (hX (7 + (a * 3 + v)) (by omega) (by omega))]
      rcases q4 v hv with q | ⟨w1, w2, w3⟩ | q
      · exact Or.inl q
      · exact Or.inr (Or.inl ⟨w1, w2, fs_t (fs_s (hX _ (by omega) (by omega))) (fs_t w3 (hY _ (by omega) (by omega)))⟩)
      · exact Or.inr (Or.inr q)
theorem fr_kc {tq lq : Nat → Int32} (hX : ∀ m, 1 ≤ m → m < 19 → fc_sm tk ln m tq lq m) (K : fr_k kn sz tk ln an go gu ye yd) : fr_k kn sz tq lq an go gu ye yd := K.imp id (fun q => ⟨q.1, fk_K hX q.2⟩)
theorem fx_Sc {tq lq : Nat → Int32} (hX : ∀ m, 1 ≤ m → m < 19 → fc_sm tk ln m tq lq m) (h0 : fc_sh tq lq 0) (S : fx_S sz tk ln) : fx_S sz tq lq :=
  fs_Z.mpr ⟨S.1, h0, fun j h1 h2 => fs_m (hX j h1 h2) (S.2.2 j h1 h2)⟩
theorem i_vc_token {k : Nat} {u : SX} {v : SY} (I : i_Rel k u v) (hk : k + 4 ≤ 2048) (v1 : Int32) : wpX_token (fun r u' => wpY_token (fun r' v' => r' = r ∧ i_Rel (k + 4) u' v') v v1) u v1 := by
  obtain ⟨tl, fc, sz, tk, ln, an, fa, sk, lw, hg, mv, en, dp, ca, rc, re, ho, ae, ta, ow, ts, fs⟩ := u
  obtain ⟨kn, te, fl, yk, yl, vs, th, yf, ef, go, gu, ye, yd, wa, al, yc, tr, fd, ys⟩ := v
  have R : i_Rel (k + 4) (tl, fc, sz, tk, ln, an, fa, sk, lw, hg, mv, en, dp, ca, rc, re, ho, ae, ta, ow, ts, fs) (kn, te, fl, yk, yl, vs, th, yf, ef, go, gu, ye, yd, wa, al, yc, tr, fd, ys) := I
  obtain ⟨rfl, rfl, S, Y, Fa, K, T, F⟩ := I
  have sm0 := Y.1 0 (by omega)
  have eL := fs_L sm0
  have hs := S.2.1
  have hs2 := fc_sm_sh sm0 hs
  refine fx_tok (fun hn => ?_) (fun hn => fy_tok (fun z => absurd z hn) (fun _ => ⟨rfl, R⟩))
  have y1 := hs.2.1
  refine pk_lt (fc_L ln 0) 12 (fun hL => ?_) (fun hL => fy_tok (fun _ => br_f (by decide) (br_t (show yl 0 = 12 from ?_) ⟨rfl, R⟩)) (fun z => absurd hn z)) hs.1
  · have hx : (0 : Int32) + ln 0 = nI (fc_L ln 0) := by rw [Int32.zero_add]; exact hs.1
    rw [hx, nI_clamp (by omega), hs.1, nI_1]
    refine ⟨vp_in_nI (by omega) (by omega), nm_e (nm_e (fy_tok (fun _ => br_f (by decide) ?_) (fun z => absurd hn z)))⟩
    have hy : yl 0 = nI (fc_L ln 0) := sm0.1.trans hs.1
    rw [hy, nI_clamp (by omega), nI_1]
    refine br_f ?_ ⟨vp_in_nI (by omega) (by omega), nm_e (nm_e ⟨?_, rfl, rfl, fx_Sc (fun m h1 _ => fs_tm h1 hL) (fs_tk hs hL (fc_nIm hn)) S, fy_Sc (fun m h1 _ => fs_tm h1 hL) (fun m h1 _ => ?_) ?_ Y, Fa, fr_kc (fun m h1 _ => fs_tm h1 hL) K, T, F⟩)⟩
    · rw [show (12 : Int32) = nI 12 from rfl, nI_eq (by omega) (by omega)]; omega
    · rw [pk_us, pk_us]
    · rw [← eL]; exact fs_tm h1 (by omega)
    · refine ⟨by rw [pk_us, pk_us], fun i hi => ?_⟩
      have e : fc_L (upd ln 0 (nI (fc_L ln 0 + 1))) 0 = fc_L ln 0 + 1 := by
        show (upd ln 0 (nI (fc_L ln 0 + 1)) 0).toNatClampNeg = _
        rw [pk_us, nI_clamp (by omega)]
      rw [e] at hi
      by_cases q : 0 * 12 + i = fc_L ln 0
      · rw [q, pk_us, pk_us]
      · rw [pk_un q, pk_un q]; exact sm0.2 i (by omega)
  · rw [sm0.1, hs.1, show fc_L ln 0 = 12 by omega]; rfl
end FS2
end
section
section FDR
variable {tl fc : Int32} {sz tk ln an fa sk lw hg mv en dp ca rc : Nat → Int32} {re : Nat → Int64} {ho ae ta ow ts fs : Nat → Int32} {kn te fl : Int32} {yk yl th ef : Nat → Int32} {go : Nat → Int64} {gu ye yd : Nat → Int32} {wa al yc : Nat → Int64} {tr fd ys : Nat → Int32}
/-! a draft refused: it is emptied -/
theorem fr_d {k : Nat} (I : i_Rel k (tl, fc, sz, tk, ln, an, fa, sk, lw, hg, mv, en, dp, ca, rc, re, ho, ae, ta, ow, ts, fs) (kn, te, fl, yk, yl, sz, th, fa, ef, go, gu, ye, yd, wa, al, yc, tr, fd, ys)) : i_Rel k (tl, fc, sz, tk, upd ln 0 0, an, fa, sk, lw, hg, mv, en, dp, ca, rc, re, ho, ae, ta, ow, ts, fs) (kn, te, fl, yk, upd yl 0 0, sz, th, fa, ef, go, gu, ye, yd, wa, al, yc, tr, fd, ys) := by
  obtain ⟨_, _, S, Y, Fa, K, T, F⟩ := I
  exact ⟨rfl, rfl, fx_Sc (fun m h1 _ => fs_d h1) (fs_sh0 pk_us) S, fy_Sc (fun m h1 _ => fs_d h1) (fun m h1 _ => fs_d h1) ⟨by rw [pk_us, pk_us], fun i hi => absurd hi (by rw [fs_L0 pk_us]; omega)⟩ Y, Fa, fr_kc (fun m h1 _ => fs_d h1) K, T, F⟩
theorem fy_oe {A B : Prop} (hs : fc_sh yk yl 0) (h1 : (fc_L yl 0 = 0 ∨ fc_ex (fc_T yk 0) (fc_L yl 0)) → A) (h0 : ¬ (fc_L yl 0 = 0 ∨ fc_ex (fc_T yk 0) (fc_L yl 0)) → B) : (yl 0 = 0 → A) ∧ (¬ yl 0 = 0 → wpY_isExpression (fun r => (r = 0 → B) ∧ (¬ r = 0 → A)) (kn, te, fl, yk, yl, sz, th, fa, ef, go, gu, ye, yd, wa, al, yc, tr, fd, ys) 0) := by
  have h12 := hs.2.1
  refine pk_eq (fc_L yl 0) 0 (fun e => h1 (Or.inl e)) (fun e => ?_) hs.1
  exact fy_ie hs (fun k => br_f (by decide) (h1 (Or.inr k))) (fun k => br_t rfl (h0 (fun z => z.elim e k)))
theorem fs_fit (sm : fc_sm tk ln 0 yk yl 0) : (fc_L yl 0 = 0 ∨ fc_ex (fc_T yk 0) (fc_L yl 0)) ↔ (fc_L ln 0 = 0 ∨ fc_ex (fc_T tk 0) (fc_L ln 0)) := by
  obtain ⟨a, b⟩ := fc_sm_T sm
  rw [a]
  exact ⟨fun h => h.imp id (fc_ex_cg b), fun h => h.imp id (fc_ex_cg (fun i hi => (b i hi).symm))⟩
theorem fs_exq (sm : fc_sm tk ln 0 yk yl 0) : fc_ex (fc_T yk 0) (fc_L yl 0) ↔ fc_ex (fc_T tk 0) (fc_L ln 0) := by
  obtain ⟨a, b⟩ := fc_sm_T sm
  rw [a]
  exact ⟨fc_ex_cg b, fc_ex_cg (fun i hi => (b i hi).symm)⟩
theorem fs_fx {tk ln : Nat → Int32} (hs : fc_sh tk ln 0) (h : fc_L ln 0 = 0 ∨ fc_ex (fc_T tk 0) (fc_L ln 0)) : fx_s tk ln 0 := ⟨hs.1, hs.2.1, h.imp id (fun e => ⟨hs, e⟩)⟩
/-- what a taken draft leaves: X's side -/
theorem fs_tX {j : Nat} {tq : Nat → Int32} (hj : 1 ≤ j) (S : fx_S sz tk ln) (hf : fx_s tk ln 0) (h : fc_cp tk tq j (fc_L ln 0)) : fx_S sz tq (upd (upd ln j (ln 0)) 0 0) := by
  refine fs_Z.mpr ⟨S.1, fs_sh0 pk_us, fun m h1 h2 => ?_⟩
  by_cases e : m = j
  · subst e; exact fs_m (fs_cj hj h) hf
  · exact fs_m (fs_co h1 e (S.2.2 m h1 h2).2.1 S.2.1.2.1 h) (S.2.2 m h1 h2)
theorem fs_tS {j k : Nat} {tq yq : Nat → Int32} (hj : 1 ≤ j) (hk : 1 ≤ k) (sm : fc_sm tk ln 0 yk yl 0) (h : fc_cp tk tq j (fc_L ln 0)) (g : fc_cp yk yq k (fc_L yl 0)) : fc_sm tq (upd (upd ln j (ln 0)) 0 0) j yq (upd (upd yl k (yl 0)) 0 0) k :=
  fs_t (fs_s (fs_cj hj h)) (fs_t sm (fs_cj hk g))
theorem fs_tO {m l j k : Nat} {tq yq : Nat → Int32} (S : fx_S sz tk ln) (sm0 : fc_sm tk ln 0 yk yl 0) (h : fc_cp tk tq j (fc_L ln 0)) (g : fc_cp yk yq k (fc_L yl 0)) (m1 : 1 ≤ m) (m2 : m < 19) (mj : m ≠ j) (l1 : 1 ≤ l) (lk : l ≠ k) (sm : fc_sm tk ln m yk yl l) : fc_sm tq (upd (upd ln j (ln 0)) 0 0) m yq (upd (upd yl k (yl 0)) 0 0) l := by
  have hL := (S.2.2 m m1 m2).2.1
  have hL0 := S.2.1.2.1
  exact fs_t (fs_s (fs_co m1 mj hL hL0 h)) (fs_t sm (fs_co l1 lk (by rw [fs_L sm]; exact hL) (by rw [fs_L sm0]; exact hL0) g))
theorem fs_t0 {j k : Nat} {tq yq : Nat → Int32} : fc_sm tq (upd (upd ln j (ln 0)) 0 0) 0 yq (upd (upd yl k (yl 0)) 0 0) 0 :=
  ⟨by rw [pk_us, pk_us], fun i hi => absurd hi (by rw [fs_L0 pk_us]; omega)⟩
theorem fs_tL {j m : Nat} (m1 : 1 ≤ m) (mj : m ≠ j) : fc_L (upd (upd ln j (ln 0)) 0 0) m = fc_L ln m := by
  unfold fc_L; rw [pk_un (by omega), pk_un mj]
theorem fs_tLj {j : Nat} (m1 : 1 ≤ j) : fc_L (upd (upd ln j (ln 0)) 0 0) j = fc_L ln 0 := by
  unfold fc_L; rw [pk_un (by omega), pk_us]
/-- init and hold -/
theorem fr_ih {k j : Nat} {tq yq : Nat → Int32} (hj1 : 1 ≤ j) (hj2 : j < 3) (I : i_Rel k (tl, fc, sz, tk, ln, an, fa, sk, lw, hg, mv, en, dp, ca, rc, re, ho, ae, ta, ow, ts, fs) (kn, te, fl, yk, yl, sz, th, fa, ef, go, gu, ye, yd, wa, al, yc, tr, fd, ys)) (hf : fc_L ln 0 = 0 ∨ fc_ex (fc_T tk 0) (fc_L ln 0)) (h : fc_cp tk tq j (fc_L ln 0)) (g : fc_cp yk yq j (fc_L yl 0)) : i_Rel k (tl, fc, sz, tq, upd (upd ln j (ln 0)) 0 0, an, fa, sk, lw, hg, mv, en, dp, ca, rc, re, ho, ae, ta, ow, ts, fs) (0, te, fl, yq, upd (upd yl j (yl 0)) 0 0, sz, th, fa, ef, go, gu, ye, yd, wa, al, yc, tr, fd, ys) := by
  obtain ⟨_, _, S, Y, Fa, K, T, F⟩ := I
  have sm0 := Y.1 0 (by omega)
  refine ⟨rfl, rfl, fs_tX hj1 S (fs_fx S.2.1 hf) h, ⟨fun m hm => ?_, fun a ha => ?_⟩, Fa, Or.inl rfl, T, F⟩
  · by_cases e0 : m = 0
    · subst e0; exact fs_t0
    · by_cases e : m = j
      · subst e; exact fs_tS hj1 hj1 sm0 h g
      · exact fs_tO S sm0 h g (by omega) (by omega) e (by omega) e (Y.1 m hm)
  · rw [fs_tL (by omega) (by omega)]
    rcases Y.2 a ha with q | ⟨q1, q2, q3, q4⟩
    · exact Or.inl q
    · refine Or.inr ⟨q1, q2, fs_tO S sm0 h g (by omega) (by omega) (by omega) (by omega) (by omega) q3, fun v hv => ?_⟩
      unfold fy_e
      rw [fs_tL (by omega) (by omega)]
      rcases q4 v hv with q | ⟨w1, w2, w3⟩ | q
      · exact Or.inl q
      · exact Or.inr (Or.inl ⟨w1, w2, fs_tO S sm0 h g (by omega) (by omega) (by omega) (by omega) (by omega) w3⟩)
      · exact Or.inr (Or.inr q)
theorem i_vc_init_ {k : Nat} {u : SX} {v : SY} (I : i_Rel k u v) (hk : k + 4 ≤ 2048) : wpX_init_ (fun r u' => wpY_init_ (fun r' v' => r' = r ∧ i_Rel (k + 4) u' v') v) u := by
  obtain ⟨tl, fc, sz, tk, ln, an, fa, sk, lw, hg, mv, en, dp, ca, rc, re, ho, ae, ta, ow, ts, fs⟩ := u
  obtain ⟨kn, te, fl, yk, yl, vs, th, yf, ef, go, gu, ye, yd, wa, al, yc, tr, fd, ys⟩ := v
  have I : i_Rel (k + 4) (tl, fc, sz, tk, ln, an, fa, sk, lw, hg, mv, en, dp, ca, rc, re, ho, ae, ta, ow, ts, fs) (kn, te, fl, yk, yl, vs, th, yf, ef, go, gu, ye, yd, wa, al, yc, tr, fd, ys) := I
  obtain ⟨rfl, rfl, S, Y, Fa, K, T, F⟩ := id I
  have sm0 := Y.1 0 (by omega)
  unfold wpX_init_
  refine fx_de S.2.1 (fun hf => ?_) (fun hf => fx_ud0 ⟨fn_n0, ?_⟩)
  · refine fx_ud1 (j := 1) (by omega) (by omega) S.2.1 (fun tq h => ⟨fn_n1, ?_⟩)
    refine fy_oe (fc_sm_sh sm0 S.2.1) (fun _ => ?_) (fun z => absurd ((fs_fit sm0).mpr hf) z)
    unfold wY_init__18 wY_init__23
    exact fy_tk1 (j := 1) (by omega) (by omega) (fc_sm_sh sm0 S.2.1) (fun yq g => ⟨fn_n1, rfl, fr_ih (by omega) (by omega) I hf h g⟩)
  · refine fy_oe (fc_sm_sh sm0 S.2.1) (fun z => absurd ((fs_fit sm0).mp z) hf) (fun _ => ?_)
    exact fy_tk0 ⟨fn_n0, rfl, fr_d I⟩
theorem i_vc_hold {k : Nat} {u : SX} {v : SY} (I : i_Rel k u v) (hk : k + 4 ≤ 2048) : wpX_hold (fun r u' => wpY_hold (fun r' v' => r' = r ∧ i_Rel (k + 4) u' v') v) u := by
  obtain ⟨tl, fc, sz, tk, ln, an, fa, sk, lw, hg, mv, en, dp, ca, rc, re, ho, ae, ta, ow, ts, fs⟩ := u
  obtain ⟨kn, te, fl, yk, yl, vs, th, yf, ef, go, gu, ye, yd, wa, al, yc, tr, fd, ys⟩ := v
  have I : i_Rel (k + 4) (tl, fc, sz, tk, ln, an, fa, sk, lw, hg, mv, en, dp, ca, rc, re, ho, ae, ta, ow, ts, fs) (kn, te, fl, yk, yl, vs, th, yf, ef, go, gu, ye, yd, wa, al, yc, tr, fd, ys) := I
  obtain ⟨rfl, rfl, S, Y, Fa, K, T, F⟩ := id I
  have sm0 := Y.1 0 (by omega)
  unfold wpX_hold
  refine fx_de S.2.1 (fun hf => ?_) (fun hf => fx_ud0 ⟨fn_n0, ?_⟩)
  · refine fx_ud1 (j := 2) (by omega) (by omega) S.2.1 (fun tq h => ⟨fn_n1, ?_⟩)
    refine fy_oe (fc_sm_sh sm0 S.2.1) (fun _ => ?_) (fun z => absurd ((fs_fit sm0).mpr hf) z)
    unfold wY_hold_18 wY_hold_23
    exact fy_tk1 (j := 2) (by omega) (by omega) (fc_sm_sh sm0 S.2.1) (fun yq g => ⟨fn_n1, rfl, fr_ih (by omega) (by omega) I hf h g⟩)
  · refine fy_oe (fc_sm_sh sm0 S.2.1) (fun z => absurd ((fs_fit sm0).mp z) hf) (fun _ => ?_)
    exact fy_tk0 ⟨fn_n0, rfl, fr_d I⟩
end FDR
end
section
section FAC
variable {tl fc : Int32} {sz tk ln an fa sk lw hg mv en dp ca rc : Nat → Int32} {re : Nat → Int64} {ho ae ta ow ts fs : Nat → Int32} {kn te fl : Int32} {yk yl th ef : Nat → Int32} {go : Nat → Int64} {gu ye yd : Nat → Int32} {wa al yc : Nat → Int64} {tr fd ys : Nat → Int32}
theorem fr_ac {k a : Nat} {lq aq eq tq yq : Nat → Int32} (ha : a < 4) (I : i_Rel k (tl, fc, sz, tk, ln, an, fa, sk, lw, hg, mv, en, dp, ca, rc, re, ho, ae, ta, ow, ts, fs) (kn, te, fl, yk, yl, sz, th, fa, ef, go, gu, ye, yd, wa, al, yc, tr, fd, ys)) (hf : fc_ex (fc_T tk 0) (fc_L ln 0))
    (l1 : ∀ v, v < 3 → lq (7 + a * 3 + v) = 0) (l2 : ∀ m, m < 7 + a * 3 ∨ 7 + a * 3 + 3 ≤ m → lq m = ln m)
    (a1 : ∀ v, v < 3 → aq (a * 3 + v) = 0) (a2 : ∀ m, m < a * 3 ∨ a * 3 + 3 ≤ m → aq m = an m)
    (e1 : ∀ v, v < 3 → eq (a * 3 + v) = 0) (e2 : ∀ m, m < a * 3 ∨ a * 3 + 3 ≤ m → eq m = ef m)
    (h : fc_cp tk tq (3 + a) (fc_L lq 0)) (g : fc_cp yk yq (3 + 4 * a) (fc_L yl 0)) :
    i_Rel k (tl, fc, sz, tq, upd (upd lq (3 + a) (lq 0)) 0 0, aq, upd fa a 0, sk, lw, hg, mv, en, dp, ca, rc, re, ho, ae, ta, ow, ts, fs) (0, te, fl, yq, upd (upd yl (3 + 4 * a) (yl 0)) 0 0, sz, upd th a 1, upd fa a 0, eq, go, gu, ye, yd, wa, al, yc, tr, fd, ys) := by
  obtain ⟨_, _, S, Y, Fa, K, T, F⟩ := I
  have sl : ∀ m, m < 7 + a * 3 ∨ 7 + a * 3 + 3 ≤ m → fc_sm tk ln m tk lq m := fun m hm => fs_l (l2 m hm)
  have S1 : fx_S sz tk lq := by
    refine fs_Z.mpr ⟨S.1, fc_sm_sh (sl 0 (by omega)) S.2.1, fun m h1 h2 => ?_⟩
    by_cases e : m < 7 + a * 3 ∨ 7 + a * 3 + 3 ≤ m
    · exact fs_m (sl m e) (S.2.2 m h1 h2)
    · obtain ⟨v, hv, rfl⟩ : ∃ v, v < 3 ∧ m = 7 + a * 3 + v := ⟨m - (7 + a * 3), by omega, by omega⟩
      exact fs_0 (l1 v hv)
  have sm0 : fc_sm tk lq 0 yk yl 0 := fs_t (fs_s (sl 0 (by omega))) (Y.1 0 (by omega))
  have hf1 : fc_ex (fc_T tk 0) (fc_L lq 0) := by rw [fs_L (sl 0 (by omega))]; exact hf
  have hne : fc_L lq 0 ≠ 0 := fun z => by rw [z] at hf1; exact fc_ex0 hf1
  refine ⟨rfl, rfl, fs_tX (by omega) S1 (fs_fx S1.2.1 (Or.inr hf1)) h, ⟨fun m hm => ?_, fun b hb => ?_⟩, fun b hb => ?_, Or.inl rfl, T, F⟩
  · by_cases e0 : m = 0
    · subst e0; exact fs_t0
    · exact fs_tO S1 sm0 h g (by omega) (by omega) (by omega) (by omega) (by omega) (fs_t (fs_s (sl m (by omega))) (Y.1 m hm))
  · by_cases e : b = a
    · subst e
      refine Or.inr ⟨pk_us, by rw [fs_tLj (by omega)]; exact hne, fs_tS (by omega) (by omega) sm0 h g, fun v hv => Or.inl ⟨e1 v hv, ?_, a1 v hv⟩⟩
      rw [fs_tL (by omega) (by omega)]
      refine fs_L0 ?_
      rw [← Nat.add_assoc]; exact l1 v hv
    · rw [pk_un e, fs_tL (by omega) (by omega), fs_L (sl (3 + b) (by omega))]
      rcases Y.2 b hb with q | ⟨q1, q2, q3, q4⟩
      · exact Or.inl q
      · refine Or.inr ⟨q1, q2, fs_tO S1 sm0 h g (by omega) (by omega) (by omega) (by omega) (by omega) (fs_t (fs_s (sl _ (by omega))) q3), fun v hv => ?_⟩
        unfold fy_e
        rw [fs_tL (by omega) (by omega), fs_L (sl (7 + (b * 3 + v)) (by omega)), e2 _ (by omega), a2 _ (by omega)]
        rcases q4 v hv with q | ⟨w1, w2, w3⟩ | q
        · exact Or.inl q
        · exact Or.inr (Or.inl ⟨w1, w2, fs_tO S1 sm0 h g (by omega) (by omega) (by omega) (by omega) (by omega) (fs_t (fs_s (sl _ (by omega))) w3)⟩)
        · exact Or.inr (Or.inr q)
  · by_cases e : b = a
    · subst e; exact Or.inl pk_us
    · rw [pk_un e]; exact Fa b hb
theorem fy_a0 {post : Int32 → SY → Prop} {x : Int32} (h : post 0 (kn, te, fl, yk, upd yl 0 0, sz, th, fa, ef, go, gu, ye, yd, wa, al, yc, tr, fd, ys)) : wY_action_21 post x kn te fl yk yl sz th fa ef go gu ye yd wa al yc tr fd ys := by
  refine br_t rfl (br_t rfl ?_)
  unfold wY_action_80
  exact fy_tk0 ⟨fn_n0, h⟩
theorem fx_a0 {post : Int32 → SX → Prop} {x : Int32} (h : post 0 (tl, fc, sz, tk, upd ln 0 0, an, fa, sk, lw, hg, mv, en, dp, ca, rc, re, ho, ae, ta, ow, ts, fs)) : wX_action_20 post x tl fc sz tk ln an fa sk lw hg mv en dp ca rc re ho ae ta ow ts fs := by
  refine br_t rfl ?_
  unfold wX_action_71
  exact fx_ud0 ⟨fn_n0, h⟩
theorem fx_a1 {post : Int32 → SX → Prop} {a : Nat} (ha : a < 4) (hs : fc_sh tk ln 0)
    (hp : ∀ lq aq tq, (∀ v, v < 3 → lq (7 + a * 3 + v) = 0) → (∀ m, m < 7 + a * 3 ∨ 7 + a * 3 + 3 ≤ m → lq m = ln m) → (∀ v, v < 3 → aq (a * 3 + v) = 0) → (∀ m, m < a * 3 ∨ a * 3 + 3 ≤ m → aq m = an m) → fc_cp tk tq (3 + a) (fc_L lq 0) →
      post 1 (tl, fc, sz, tq, upd (upd lq (3 + a) (lq 0)) 0 0, aq, upd fa a 0, sk, lw, hg, mv, en, dp, ca, rc, re, ho, ae, ta, ow, ts, fs)) : wX_action_21 post (nI a) 1 tl fc sz tk ln an fa sk lw hg mv en dp ca rc re ho ae ta ow ts fs := by
  refine br_f (by decide) ⟨vp_in_nI ha (by omega), ?_⟩
  rw [nI_clamp (by omega)]
  refine nm_e ?_
  refine pk_loop (fun n i p => wX_action_35 post (nI a) 1 tl fc n (nI i) sz tk p.1 p.2 (upd fa a 0) sk lw hg mv en dp ca rc re ho ae ta ow ts fs) (fun i (p : (Nat → Int32) × (Nat → Int32)) => (∀ v, v < i → p.1 (7 + a * 3 + v) = 0) ∧ (∀ m, m < 7 + a * 3 ∨ 7 + a * 3 + 3 ≤ m → p.1 m = ln m) ∧ (∀ v, v < i → p.2 (a * 3 + v) = 0) ∧ (∀ m, m < a * 3 ∨ a * 3 + 3 ≤ m → p.2 m = an m)) 3 0 (ln, an) (by omega) ⟨fun v hv => absurd hv (by omega), fun _ _ => rfl, fun v hv => absurd hv (by omega), fun _ _ => rfl⟩ (fun n p J => ?_) (fun n i p hi J kk => ?_)
  · obtain ⟨lq, aq⟩ := p
    obtain ⟨J1, J2, J3, J4⟩ := J
    refine br_t (by decide) ?_
    unfold wX_action_71
    rw [show 3 + nI a = nI (3 + a) from nI_add 3 a]
    have h0 : fc_sh tk lq 0 := fc_sm_sh (fs_l (J2 0 (by omega))) hs
    exact fx_ud1 (by omega) (by omega) h0 (fun tq hq => ⟨fn_n1, hp lq aq tq J1 J2 J3 J4 hq⟩)
  · obtain ⟨lq, aq⟩ := p
    obtain ⟨J1, J2, J3, J4⟩ := J
    have J1 : ∀ v, v < i → lq (7 + a * 3 + v) = 0 := J1
    have J2 : ∀ m, m < 7 + a * 3 ∨ 7 + a * 3 + 3 ≤ m → lq m = ln m := J2
    have J3 : ∀ v, v < i → aq (a * 3 + v) = 0 := J3
    have J4 : ∀ m, m < a * 3 ∨ a * 3 + 3 ≤ m → aq m = an m := J4
    refine pk_le 3 i (fun z => absurd z (by omega)) (fun _ => ?_)
    have h1 : 7 + nI a * 3 + nI i = nI (7 + a * 3 + i) := by rw [← nI_add, ← nI_add, ← pk_mul]; rfl
    have h2 : nI a * 3 + nI i = nI (a * 3 + i) := by rw [← nI_add, ← pk_mul]; rfl
    rw [h1, h2, nI_clamp (by omega), nI_clamp (by omega), fn_b0]
    refine ⟨vp_in_nI (by omega) (by omega), nm_e ⟨vp_in_nI (by omega) (by omega), nm_e (nm_r (nI_1 i) (kk (_, _) ⟨fun v hv => ?_, fun m hm => ?_, fun v hv => ?_, fun m hm => ?_⟩))⟩⟩
    · show upd lq _ _ _ = _
      by_cases e : v = i
      · subst e; exact pk_us
      · rw [pk_un (by omega)]; exact J1 v (by omega)
    · show upd lq _ _ _ = _
      rw [pk_un (by omega)]; exact J2 m hm
    · show upd aq _ _ _ = _
      by_cases e : v = i
      · subst e; exact pk_us
      · rw [pk_un (by omega)]; exact J3 v (by omega)
    · show upd aq _ _ _ = _
      rw [pk_un (by omega)]; exact J4 m hm
theorem fy_a1 {post : Int32 → SY → Prop} {a : Nat} (ha : a < 4) (hs : fc_sh yk yl 0)
    (hp : ∀ eq yq, (∀ v, v < 3 → eq (a * 3 + v) = 0) → (∀ m, m < a * 3 ∨ a * 3 + 3 ≤ m → eq m = ef m) → fc_cp yk yq (3 + 4 * a) (fc_L yl 0) →
      post 1 (0, te, fl, yq, upd (upd yl (3 + 4 * a) (yl 0)) 0 0, sz, upd th a 1, upd fa a 0, eq, go, gu, ye, yd, wa, al, yc, tr, fd, ys)) : wY_action_22 post (nI a) 1 kn te fl yk yl sz th fa ef go gu ye yd wa al yc tr fd ys := by
  refine br_f (by decide) ⟨vp_in_nI ha (by omega), ?_⟩
  rw [nI_clamp (by omega), fn_b1]
  refine nm_e ⟨vp_in_nI ha (by omega), nm_e ?_⟩
  refine pk_loop (fun n i p => wY_action_43 post (nI a) 1 kn te fl n (nI i) yk yl sz (upd th a 1) (upd fa a 0) p go gu ye yd wa al yc tr fd ys) (fun i p => (∀ v, v < i → p (a * 3 + v) = 0) ∧ (∀ m, m < a * 3 ∨ a * 3 + 3 ≤ m → p m = ef m)) 3 0 ef (by omega) ⟨fun v hv => absurd hv (by omega), fun _ _ => rfl⟩ (fun n p J => ?_) (fun n i p hi J kk => ?_)
  · refine br_t (by decide) (br_f (by decide) ?_)
    unfold wY_action_80
    rw [show 3 + 4 * nI a = nI (3 + 4 * a) from by rw [← nI_add, ← pk_mul]; rfl]
    exact fy_tk1 (by omega) (by omega) hs (fun yq hq => ⟨fn_n1, hp p yq J.1 J.2 hq⟩)
  · refine pk_le 3 i (fun z => absurd z (by omega)) (fun _ => ?_)
    have h2 : 3 * nI a + nI i = nI (a * 3 + i) := by rw [← nI_add, Nat.mul_comm, ← pk_mul]; rfl
    rw [h2, nI_clamp (by omega)]
    refine ⟨vp_in_nI (by omega) (by omega), nm_e (nm_r (nI_1 i) (kk _ ⟨fun v hv => ?_, fun m hm => ?_⟩))⟩
    · by_cases e : v = i
      · subst e; exact pk_us
      · rw [pk_un (by omega)]; exact J.1 v (by omega)
    · rw [pk_un (by omega)]; exact J.2 m hm
theorem i_vc_action {k : Nat} {u : SX} {v : SY} (I : i_Rel k u v) (hk : k + 4 ≤ 2048) (v1 : Int32) : wpX_action (fun r u' => wpY_action (fun r' v' => r' = r ∧ i_Rel (k + 4) u' v') v v1) u v1 := by
  obtain ⟨tl, fc, sz, tk, ln, an, fa, sk, lw, hg, mv, en, dp, ca, rc, re, ho, ae, ta, ow, ts, fs⟩ := u
  obtain ⟨kn, te, fl, yk, yl, vs, th, yf, ef, go, gu, ye, yd, wa, al, yc, tr, fd, ys⟩ := v
  have I : i_Rel (k + 4) (tl, fc, sz, tk, ln, an, fa, sk, lw, hg, mv, en, dp, ca, rc, re, ho, ae, ta, ow, ts, fs) (kn, te, fl, yk, yl, vs, th, yf, ef, go, gu, ye, yd, wa, al, yc, tr, fd, ys) := I
  obtain ⟨rfl, rfl, S, Y, Fa, K, T, F⟩ := id I
  have sm0 := Y.1 0 (by omega)
  have hy := fc_sm_sh sm0 S.2.1
  rcases pk_ix v1 (n := 4) (by omega) with h | h | ⟨a, ha, rfl⟩
  · refine br_t h (fx_a0 ?_)
    unfold wpY_action
    exact fy_no (Or.inl h) (br_t rfl (fy_a0 ⟨rfl, fr_d I⟩))
  · refine br_f (fun z => ?_) (br_t h (fx_a0 ?_))
    · exact absurd (Int32.le_trans h (Int32.le_of_lt z)) (by decide)
    · unfold wpY_action
      exact fy_no (Or.inr h) (br_t rfl (fy_a0 ⟨rfl, fr_d I⟩))
  · refine br_f (nI_pos (by omega)) (pk_le 4 a (fun z => absurd z (by omega)) (fun _ => ?_))
    refine fx_di S.2.1 (fun hf => br_f (by decide) (fx_a1 ha S.2.1 (fun lq aq tq l1 l2 a1 a2 hc => ?_))) (fun hf => br_t rfl (fx_a0 ?_))
    · unfold wpY_action
      refine fy_ni (a := 0) (b := 3) (by omega) (by omega) (by omega) (br_f (by decide) ?_)
      refine fy_ie hy (fun _ => br_f (by decide) (fy_a1 ha hy (fun eq yq e1 e2 hg => ⟨rfl, fr_ac ha I hf l1 l2 a1 a2 e1 e2 hc hg⟩))) (fun z => absurd ((fs_exq sm0).mpr hf) z)
    · unfold wpY_action
      refine fy_ni (a := 0) (b := 3) (by omega) (by omega) (by omega) (br_f (by decide) ?_)
      exact fy_ie hy (fun z => absurd ((fs_exq sm0).mp z) hf) (fun _ => br_t rfl (fy_a0 ⟨rfl, fr_d I⟩))
end FAC
end
section
section FEF
variable {tl fc : Int32} {sz tk ln an fa sk lw hg mv en dp ca rc : Nat → Int32} {re : Nat → Int64} {ho ae ta ow ts fs : Nat → Int32} {kn te fl : Int32} {yk yl th ef : Nat → Int32} {go : Nat → Int64} {gu ye yd : Nat → Int32} {wa al yc : Nat → Int64} {tr fd ys : Nat → Int32}
theorem fr_ef {k a w : Nat} {x e : Int32} {tq yq : Nat → Int32} (ha : a < 4) (hw : w < 3) (I : i_Rel k (tl, fc, sz, tk, ln, an, fa, sk, lw, hg, mv, en, dp, ca, rc, re, ho, ae, ta, ow, ts, fs) (kn, te, fl, yk, yl, sz, th, fa, ef, go, gu, ye, yd, wa, al, yc, tr, fd, ys)) (hth : th a ≠ 0) (hf : fc_L ln 0 = 0 ∨ fc_ex (fc_T tk 0) (fc_L ln 0))
    (he : (fc_L ln 0 ≠ 0 ∧ e = 1) ∨ (fc_L ln 0 = 0 ∧ x = 0 ∧ e = 0) ∨ (fc_L ln 0 = 0 ∧ x ≠ 0 ∧ e = 2))
    (h : fc_cp tk tq (7 + a * 3 + w) (fc_L ln 0)) (g : fc_cp yk yq (3 + 4 * a + 1 + w) (fc_L yl 0)) :
    i_Rel k (tl, fc, sz, tq, upd (upd ln (7 + a * 3 + w) (ln 0)) 0 0, upd an (a * 3 + w) x, fa, sk, lw, hg, mv, en, dp, ca, rc, re, ho, ae, ta, ow, ts, fs) (0, te, fl, yq, upd (upd yl (3 + 4 * a + 1 + w) (yl 0)) 0 0, sz, th, fa, upd ef (a * 3 + w) e, go, gu, ye, yd, wa, al, yc, tr, fd, ys) := by
  obtain ⟨_, _, S, Y, Fa, K, T, F⟩ := I
  have sm0 := Y.1 0 (by omega)
  refine ⟨rfl, rfl, fs_tX (by omega) S (fs_fx S.2.1 hf) h, ⟨fun m hm => ?_, fun b hb => ?_⟩, Fa, Or.inl rfl, T, F⟩
  · by_cases e0 : m = 0
    · subst e0; exact fs_t0
    · exact fs_tO S sm0 h g (by omega) (by omega) (by omega) (by omega) (by omega) (Y.1 m hm)
  · rw [fs_tL (by omega) (by omega)]
    rcases Y.2 b hb with q | ⟨q1, q2, q3, q4⟩
    · exact Or.inl q
    · refine Or.inr ⟨q1, q2, fs_tO S sm0 h g (by omega) (by omega) (by omega) (by omega) (by omega) q3, fun v hv => ?_⟩
      by_cases ee : b = a ∧ v = w
      · obtain ⟨rfl, rfl⟩ := ee
        unfold fy_e
        rw [← Nat.add_assoc, fs_tLj (by omega), pk_us, pk_us]
        rcases he with ⟨r1, r2⟩ | ⟨r1, r2, r3⟩ | ⟨r1, r2, r3⟩
        · exact Or.inr (Or.inl ⟨r2, r1, fs_tS (by omega) (by omega) sm0 h g⟩)
        · exact Or.inl ⟨r3, r1, r2⟩
        · exact Or.inr (Or.inr ⟨r3, r1, r2⟩)
      · unfold fy_e
        rw [fs_tL (by omega) (by omega), pk_un (by omega), pk_un (by omega)]
        rcases q4 v hv with q | ⟨w1, w2, w3⟩ | q
        · exact Or.inl q
        · exact Or.inr (Or.inl ⟨w1, w2, fs_tO S sm0 h g (by omega) (by omega) (by omega) (by omega) (by omega) w3⟩)
        · exact Or.inr (Or.inr q)
theorem fy_e0 {post : Int32 → SY → Prop} {x y z : Int32} (h : post 0 (kn, te, fl, yk, upd yl 0 0, sz, th, fa, ef, go, gu, ye, yd, wa, al, yc, tr, fd, ys)) : wY_effect_48 post x y z kn te fl yk yl sz th fa ef go gu ye yd wa al yc tr fd ys := by
  refine br_t rfl (br_t rfl ?_)
  unfold wY_effect_109
  exact fy_tk0 ⟨fn_n0, h⟩
theorem fx_e40 {post : Int32 → SX → Prop} {x y z : Int32} (h : post 0 (tl, fc, sz, tk, upd ln 0 0, an, fa, sk, lw, hg, mv, en, dp, ca, rc, re, ho, ae, ta, ow, ts, fs)) : wX_effect_40 post x y z tl fc sz tk ln an fa sk lw hg mv en dp ca rc re ho ae ta ow ts fs := by
  refine br_t rfl ?_
  unfold wX_effect_59
  exact fx_ud0 ⟨fn_n0, h⟩
theorem fx_e21 {post : Int32 → SX → Prop} {x y z : Int32} (h : post 0 (tl, fc, sz, tk, upd ln 0 0, an, fa, sk, lw, hg, mv, en, dp, ca, rc, re, ho, ae, ta, ow, ts, fs)) : wX_effect_21 post x y z tl fc sz tk ln an fa sk lw hg mv en dp ca rc re ho ae ta ow ts fs := br_t rfl (fx_e40 h)
theorem fn_bz (v : Int32) : vp_nar .boolean (lw_bz v) = lw_bz v := by
  rcases lw_bz_01 v with e | e <;> rw [e] <;> decide
theorem fy_e1 {post : Int32 → SY → Prop} {a w : Nat} {x : Int32} (ha : a < 4) (hw : w < 3) (hs : fc_sh yk yl 0)
    (hp : ∀ e yq, ((fc_L yl 0 ≠ 0 ∧ e = 1) ∨ (fc_L yl 0 = 0 ∧ x = 0 ∧ e = 0) ∨ (fc_L yl 0 = 0 ∧ x ≠ 0 ∧ e = 2)) → fc_cp yk yq (3 + 4 * a + 1 + w) (fc_L yl 0) →
      post 1 (0, te, fl, yq, upd (upd yl (3 + 4 * a + 1 + w) (yl 0)) 0 0, sz, th, fa, upd ef (a * 3 + w) e, go, gu, ye, yd, wa, al, yc, tr, fd, ys)) : wY_effect_44 post (nI a) (nI w) x kn te fl yk yl sz th fa ef go gu ye yd wa al yc tr fd ys := by
  have h12 := hs.2.1
  have h2 : 3 * nI a + nI w = nI (a * 3 + w) := by rw [← nI_add, Nat.mul_comm, ← pk_mul]; rfl
  have h3 : 3 + 4 * nI a + 1 + nI w = nI (3 + 4 * a + 1 + w) := by rw [← nI_add, ← nI_1, ← nI_add, ← pk_mul]; rfl
  have fin : ∀ e, ((fc_L yl 0 ≠ 0 ∧ e = 1) ∨ (fc_L yl 0 = 0 ∧ x = 0 ∧ e = 0) ∨ (fc_L yl 0 = 0 ∧ x ≠ 0 ∧ e = 2)) → wY_effect_87 post (nI a) (nI w) 1 e (3 * nI a + nI w) kn te fl yk yl sz th fa ef go gu ye yd wa al yc tr fd ys := by
    intro e he
    rw [h2]
    refine ⟨vp_in_nI (by omega) (by omega), ?_⟩
    rw [nI_clamp (by omega)]
    refine nm_e (br_f (by decide) ?_)
    unfold wY_effect_109
    rw [h3]
    exact fy_tk1 (by omega) (by omega) hs (fun yq hq => ⟨fn_n1, hp e yq he hq⟩)
  refine br_f (by decide) (pk_le (fc_L yl 0) 0 (fun z => br_c (fun q => fin 0 (Or.inr (Or.inl ⟨by omega, q, rfl⟩))) (fun q => fin 2 (Or.inr (Or.inr ⟨by omega, q, rfl⟩)))) (fun z => fin 1 (Or.inl ⟨by omega, rfl⟩)) hs.1)
theorem i_vc_effect {k : Nat} {u : SX} {v : SY} (I : i_Rel k u v) (hk : k + 4 ≤ 2048) (v1 : Int32) (v2 : Int32) (v3 : Int32) : wpX_effect (fun r u' => wpY_effect (fun r' v' => r' = r ∧ i_Rel (k + 4) u' v') v v1 v2 (lw_bz v3)) u v1 v2 (lw_bz v3) := by
  obtain ⟨tl, fc, sz, tk, ln, an, fa, sk, lw, hg, mv, en, dp, ca, rc, re, ho, ae, ta, ow, ts, fs⟩ := u
  obtain ⟨kn, te, fl, yk, yl, vs, th, yf, ef, go, gu, ye, yd, wa, al, yc, tr, fd, ys⟩ := v
  have I : i_Rel (k + 4) (tl, fc, sz, tk, ln, an, fa, sk, lw, hg, mv, en, dp, ca, rc, re, ho, ae, ta, ow, ts, fs) (kn, te, fl, yk, yl, vs, th, yf, ef, go, gu, ye, yd, wa, al, yc, tr, fd, ys) := I
  obtain ⟨rfl, rfl, S, Y, Fa, K, T, F⟩ := id I
  have sm0 := Y.1 0 (by omega)
  have hy := fc_sm_sh sm0 S.2.1
  unfold wpX_effect
  rcases pk_ix v1 (n := 4) (by omega) with h | h | ⟨a, ha, rfl⟩
  · refine fx_itn (Or.inl h) (br_t rfl (fx_e21 ?_))
    unfold wpY_effect
    exact fy_no (Or.inl h) (br_t rfl (fy_e0 ⟨rfl, fr_d I⟩))
  · refine fx_itn (Or.inr h) (br_t rfl (fx_e21 ?_))
    unfold wpY_effect
    exact fy_no (Or.inr h) (br_t rfl (fy_e0 ⟨rfl, fr_d I⟩))
  · obtain ⟨h1, h2, h3⟩ := S.2.2 (3 + a) (by omega) (by omega)
    have yno : (v2 < 0 ∨ 2 < v2 ∨ th a = 0) → wpY_effect (fun r' v' => r' = 0 ∧ i_Rel (k + 4) (tl, fc, sz, tk, upd ln 0 0, an, fa, sk, lw, hg, mv, en, dp, ca, rc, re, ho, ae, ta, ow, ts, fs) v') (kn, te, fl, yk, yl, sz, th, fa, ef, go, gu, ye, yd, wa, al, yc, tr, fd, ys) (nI a) v2 (lw_bz v3) := by
      intro hh
      unfold wpY_effect
      dsimp only
      rw [nI_clamp (by omega)]
      refine fy_ni (a := 0) (b := 3) (by omega) (by omega) (by omega) (br_f (by decide) (fy_in (fun p q => br_f (by decide) ⟨vp_in_nI ha (by omega), br_t ?_ (fy_e0 ⟨rfl, fr_d I⟩)⟩) (fun _ => br_t rfl (fy_e0 ⟨rfl, fr_d I⟩))))
      rcases hh with z | z | z
      · exact absurd z p
      · exact absurd z q
      · exact z
    refine fx_it ha h1 h2 (fun z => br_f (by decide) ?_) (fun z => br_t rfl (fx_e21 (yno (Or.inr (Or.inr ((fy_th Y ha).mpr z))))))
    have hth : ¬ th a = 0 := fun w => z ((fy_th Y ha).mp w)
    refine br_c (fun w => fx_e21 (yno (Or.inl w))) (fun w => br_c (fun w2 => fx_e21 (yno (Or.inr (Or.inl ((fn_32 _).mp w2))))) (fun w2 => ?_))
    obtain ⟨j, hj, rfl⟩ := nI_of (x := v2) w
    have hj3 : j < 3 := by
      have := fn_nl.mp w2
      rw [show (3 : Int32) = nI 3 from rfl, nI_ltI hj (by omega)] at this; exact this
    have yes : ∀ {post : Int32 → SY → Prop}, ((fc_L yl 0 = 0 ∨ fc_ex (fc_T yk 0) (fc_L yl 0)) → wY_effect_44 post (nI a) (nI j) (lw_bz v3) kn te fl yk yl sz th fa ef go gu ye yd wa al yc tr fd ys) → (¬ (fc_L yl 0 = 0 ∨ fc_ex (fc_T yk 0) (fc_L yl 0)) → wY_effect_48 post (nI a) (nI j) (lw_bz v3) kn te fl yk yl sz th fa ef go gu ye yd wa al yc tr fd ys) → wpY_effect post (kn, te, fl, yk, yl, sz, th, fa, ef, go, gu, ye, yd, wa, al, yc, tr, fd, ys) (nI a) (nI j) (lw_bz v3) := by
      intro post p1 p0
      unfold wpY_effect
      dsimp only
      rw [nI_clamp (n := a) (by omega)]
      exact fy_ni (a := 0) (b := 3) (by omega) (by omega) (by omega) (br_f (by decide) (fy_ni (a := 0) (b := 2) (by omega) (by omega) (by omega) (br_f (by decide) ⟨vp_in_nI ha (by omega), br_f hth (fy_oe hy p1 p0)⟩)))
    refine br_f (by decide) (fx_de S.2.1 (fun hf => br_f (by decide) (br_f (by decide) ?_)) (fun hf => br_t rfl (fx_e40 (yes (fun q => absurd ((fs_fit sm0).mp q) hf) (fun _ => fy_e0 ⟨rfl, fr_d I⟩)))))
    have g1 : nI a * 3 + nI j = nI (a * 3 + j) := by rw [← nI_add, ← pk_mul]; rfl
    have g2 : 7 + nI a * 3 + nI j = nI (7 + a * 3 + j) := by rw [← nI_add, ← nI_add, ← pk_mul]; rfl
    rw [g1, nI_clamp (by omega), fn_bz]
    refine ⟨vp_in_nI (by omega) (by omega), nm_e ?_⟩
    unfold wX_effect_59
    rw [g2]
    refine fx_ud1 (by omega) (by omega) S.2.1 (fun tq hc => ⟨fn_n1, ?_⟩)
    refine yes (fun _ => fy_e1 ha hj3 hy (fun e yq he hg => ⟨rfl, fr_ef ha hj3 I hth hf ?_ hc hg⟩)) (fun q => absurd ((fs_fit sm0).mpr hf) q)
    rw [fs_L sm0] at he; exact he
end FEF
end
section
section FAK
variable {tl fc : Int32} {sz tk ln an fa sk lw hg mv en dp ca rc : Nat → Int32} {re : Nat → Int64} {ho ae ta ow ts fs : Nat → Int32} {kn te fl : Int32} {yk yl th ef : Nat → Int32} {go : Nat → Int64} {gu ye yd : Nat → Int32} {wa al yc : Nat → Int64} {tr fd ys : Nat → Int32}
theorem fx_st {post : Int32 → Prop} (hz : fc_Z sz) {s : Nat} (hs : s < fc_N sz) (h : post 1) : wpX_isState post (tl, fc, sz, tk, ln, an, fa, sk, lw, hg, mv, en, dp, ca, rc, re, ho, ae, ta, ow, ts, fs) (nI s) := by
  have hN := fc_N1 hz
  refine br_f (nI_pos (by omega)) (fx_ns hz ?_)
  exact pk_le (fc_N sz) s (fun z => absurd z (by omega)) (fun _ => h)
theorem fx_sn {post : Int32 → Prop} (hz : fc_Z sz) {x : Int32} (hx : x < 0 ∨ nI (fc_N sz) ≤ x) (h : post 0) : wpX_isState post (tl, fc, sz, tk, ln, an, fa, sk, lw, hg, mv, en, dp, ca, rc, re, ho, ae, ta, ow, ts, fs) x := by
  by_cases z : x < 0
  · exact br_t z h
  · refine br_f z (fx_ns hz ?_)
    exact br_t (hx.resolve_left z) h
theorem fn_Nm {n : Nat} (h : 1 ≤ n) : nI n - 1 = nI (n - 1) := pk_sub (b := 1) h
theorem fy_sn {post : Int32 → Prop} {n : Nat} (h1 : 1 ≤ n) (h2 : n < 2 ^ 31) {x : Int32} (hx : x < 0 ∨ nI n ≤ x) (h : post 0) : wpY_in post x 0 (nI n - 1) := by
  rw [fn_Nm h1]
  refine fy_in (fun a b => absurd hx ?_) (fun _ => h)
  rintro (z | z)
  · exact a z
  · obtain ⟨j, hj, rfl⟩ := nI_of a
    rw [nI_leI h2 hj] at z
    rw [nI_ltI (by omega) hj] at b
    omega
theorem fy_st {post : Int32 → Prop} {n s : Nat} (h2 : n < 2 ^ 31) (hs : s < n) (h : post 1) : wpY_in post (nI s) 0 (nI n - 1) := by
  rw [fn_Nm (by omega)]
  exact fy_ni (a := 0) (by omega) (by omega) (by omega) h
theorem i_vc_leads {k : Nat} {u : SX} {v : SY} (I : i_Rel k u v) (hk : k + 4 ≤ 2048) (v1 : Int32) (v2 : Int32) (v3 : Int32) : wpX_leads (fun r u' => wpY_leads (fun r' v' => r' = r ∧ i_Rel (k + 4) u' v') v v1 v2 v3) u v1 v2 v3 := by
  obtain ⟨tl, fc, sz, tk, ln, an, fa, sk, lw, hg, mv, en, dp, ca, rc, re, ho, ae, ta, ow, ts, fs⟩ := u
  obtain ⟨kn, te, fl, yk, yl, vs, th, yf, ef, go, gu, ye, yd, wa, al, yc, tr, fd, ys⟩ := v
  have I : i_Rel (k + 4) (tl, fc, sz, tk, ln, an, fa, sk, lw, hg, mv, en, dp, ca, rc, re, ho, ae, ta, ow, ts, fs) (kn, te, fl, yk, yl, vs, th, yf, ef, go, gu, ye, yd, wa, al, yc, tr, fd, ys) := I
  obtain ⟨rfl, rfl, S, Y, Fa, K, T, F⟩ := id I
  have hz := S.1
  have hN := fc_N1 hz
  unfold wpX_leads
  rcases pk_ix v1 (n := 4) (by omega) with h | h | ⟨a, ha, rfl⟩
  · refine fx_itn (Or.inl h) (br_t rfl ?_)
    unfold wpY_leads
    exact fy_no (Or.inl h) (br_t rfl ⟨rfl, I⟩)
  · refine fx_itn (Or.inr h) (br_t rfl ?_)
    unfold wpY_leads
    exact fy_no (Or.inr h) (br_t rfl ⟨rfl, I⟩)
  · obtain ⟨h1, h2, h3⟩ := S.2.2 (3 + a) (by omega) (by omega)
    refine fx_it ha h1 h2 (fun z => br_f (by decide) ?_) (fun z => br_t rfl ?_)
    · have hth : ¬ th a = 0 := fun w => z ((fy_th Y ha).mp w)
      have ya : ∀ {post : Int32 → SY → Prop}, wpY_in (fun r_25 => (r_25 = 0 → post 0 (kn, te, fl, yk, yl, sz, th, fa, ef, go, gu, ye, yd, wa, al, yc, tr, fd, ys)) ∧ (¬ r_25 = 0 → wpY_states (fun r_27 => wpY_in (fun r_47 => (r_47 = 0 → post 0 (kn, te, fl, yk, yl, sz, th, fa, ef, go, gu, ye, yd, wa, al, yc, tr, fd, ys)) ∧ (¬ r_47 = 0 → wpY_know (fun u => wpY_goesTo (fun r_69 => narrow .boolean (.int r_69) = .int r_69 ∧ post r_69 u) u (nI a) v2 v3) (kn, te, fl, yk, yl, sz, th, fa, ef, go, gu, ye, yd, wa, al, yc, tr, fd, ys))) v3 0 (r_27 - 1)) (kn, te, fl, yk, yl, sz, th, fa, ef, go, gu, ye, yd, wa, al, yc, tr, fd, ys))) v2 0 (nI (fc_N sz) - 1) → wpY_leads post (kn, te, fl, yk, yl, sz, th, fa, ef, go, gu, ye, yd, wa, al, yc, tr, fd, ys) (nI a) v2 v3 := by
        intro post hh
        unfold wpY_leads
        dsimp only
        rw [nI_clamp (n := a) (by omega)]
        exact fy_ni (a := 0) (b := 3) (by omega) (by omega) (by omega) (br_f (by decide) ⟨vp_in_nI ha (by omega), br_f hth (fy_ns hz hh)⟩)
      rcases pk_ix v2 (n := fc_N sz) (by omega) with w | w | ⟨s, hs, rfl⟩
      · exact fx_sn hz (Or.inl w) (br_t rfl (ya (fy_sn (by omega) (by omega) (Or.inl w) (br_t rfl ⟨rfl, I⟩))))
      · exact fx_sn hz (Or.inr w) (br_t rfl (ya (fy_sn (by omega) (by omega) (Or.inr w) (br_t rfl ⟨rfl, I⟩))))
      · refine fx_st hz hs (br_f (by decide) ?_)
        rcases pk_ix v3 (n := fc_N sz) (by omega) with w | w | ⟨t, ht, rfl⟩
        · exact fx_sn hz (Or.inl w) (br_t rfl (ya (fy_st (by omega) hs (br_f (by decide) (fy_ns hz (fy_sn (by omega) (by omega) (Or.inl w) (br_t rfl ⟨rfl, I⟩)))))))
        · exact fx_sn hz (Or.inr w) (br_t rfl (ya (fy_st (by omega) hs (br_f (by decide) (fy_ns hz (fy_sn (by omega) (by omega) (Or.inr w) (br_t rfl ⟨rfl, I⟩)))))))
        · refine fx_st hz ht (br_f (by decide) (fx_ex S (fun sk' lw' hg' mv' en' dp' XX => ?_)))
          have hx : nI s * 125 + nI t = nI (s * 125 + t) := by rw [← nI_add, ← pk_mul]; rfl
          rw [hx, nI_clamp (by omega)]
          have hb := fb_t1 ((XX.1 s hs).1 t ht) ha
          refine ⟨vp_in_nI (by omega) (by omega), br_c (fun q => ya (fy_st (by omega) hs (br_f (by decide) (fy_ns hz (fy_st (by omega) ht (br_f (by decide) (fy_kn S Y K (fun go' gu' ye' yd' ys' KK => ?_)))))))) (fun q => ya (fy_st (by omega) hs (br_f (by decide) (fy_ns hz (fy_st (by omega) ht (br_f (by decide) (fy_kn S Y K (fun go' gu' ye' yd' ys' KK => ?_))))))))⟩
          · exact fy_gt hz Y KK.1 ha hs ht (fun _ => ⟨fn_n1, rfl, rfl, rfl, S, Y, Fa, Or.inr ⟨rfl, KK⟩, T, F⟩) (fun m => absurd ((hb.mp q).symm.trans m) (by decide))
          · exact fy_gt hz Y KK.1 ha hs ht (fun m => absurd (hb.mpr m) q) (fun _ => ⟨fn_n0, rfl, rfl, rfl, S, Y, Fa, Or.inr ⟨rfl, KK⟩, T, F⟩)
    · unfold wpY_leads
      dsimp only
      rw [nI_clamp (n := a) (by omega)]
      exact fy_ni (a := 0) (b := 3) (by omega) (by omega) (by omega) (br_f (by decide) ⟨vp_in_nI ha (by omega), br_t ((fy_th Y ha).mpr z) ⟨rfl, I⟩⟩)
theorem i_vc_state {k : Nat} {u : SX} {v : SY} (I : i_Rel k u v) (hk : k + 4 ≤ 2048) (v1 : Int32) (v2 : Int32) : wpX_state (fun r u' => wpY_state (fun r' v' => r' = r ∧ i_Rel (k + 4) u' v') v v1 v2) u v1 v2 := by
  obtain ⟨tl, fc, sz, tk, ln, an, fa, sk, lw, hg, mv, en, dp, ca, rc, re, ho, ae, ta, ow, ts, fs⟩ := u
  obtain ⟨kn, te, fl, yk, yl, vs, th, yf, ef, go, gu, ye, yd, wa, al, yc, tr, fd, ys⟩ := v
  have I : i_Rel (k + 4) (tl, fc, sz, tk, ln, an, fa, sk, lw, hg, mv, en, dp, ca, rc, re, ho, ae, ta, ow, ts, fs) (kn, te, fl, yk, yl, vs, th, yf, ef, go, gu, ye, yd, wa, al, yc, tr, fd, ys) := I
  obtain ⟨rfl, rfl, S, Y, Fa, K, T, F⟩ := id I
  have hz := S.1
  have hN := fc_N1 hz
  unfold wpX_state
  rcases pk_ix v1 (n := fc_N sz) (by omega) with w | w | ⟨s, hs, rfl⟩
  · refine fx_sn hz (Or.inl w) (br_t rfl ?_)
    unfold wpY_state
    exact fy_ns hz (fy_sn (by omega) (by omega) (Or.inl w) (br_t rfl ⟨rfl, I⟩))
  · refine fx_sn hz (Or.inr w) (br_t rfl ?_)
    unfold wpY_state
    exact fy_ns hz (fy_sn (by omega) (by omega) (Or.inr w) (br_t rfl ⟨rfl, I⟩))
  · refine fx_st hz hs (br_f (by decide) ?_)
    have yn : (v2 < 0 ∨ 5 < v2) → wpY_state (fun r' v' => r' = -1 ∧ i_Rel (k + 4) (tl, fc, sz, tk, ln, an, fa, sk, lw, hg, mv, en, dp, ca, rc, re, ho, ae, ta, ow, ts, fs) v') (kn, te, fl, yk, yl, sz, th, fa, ef, go, gu, ye, yd, wa, al, yc, tr, fd, ys) (nI s) v2 := by
      intro hh
      unfold wpY_state
      refine fy_ns hz (fy_st (by omega) hs (br_f (by decide) (fy_in (fun a b => absurd hh ?_) (fun _ => br_t rfl ⟨rfl, I⟩))))
      rintro (q | q)
      · exact a q
      · exact b q
    refine br_c (fun z => yn (Or.inl z)) (fun z => br_c (fun z2 => yn (Or.inr z2)) (fun z2 => ?_))
    obtain ⟨w, hw, rfl⟩ := nI_of (x := v2) z
    have w5 : w ≤ 5 := by
      rw [show (5 : Int32) = nI 5 from rfl, nI_ltI (by omega) hw] at z2; omega
    have ya : ∀ {post : Int32 → SY → Prop}, (∀ go' gu' ye' yd' ys', fy_K sz tk ln an go' gu' ye' yd' → (w = 0 → post (yd' s) (1, te, fl, yk, yl, sz, th, fa, ef, go', gu', ye', yd', wa, al, yc, tr, fd, ys')) ∧ (w = 1 → post (ye' s) (1, te, fl, yk, yl, sz, th, fa, ef, go', gu', ye', yd', wa, al, yc, tr, fd, ys')) ∧ (w = 2 → post (gu' s) (1, te, fl, yk, yl, sz, th, fa, ef, go', gu', ye', yd', wa, al, yc, tr, fd, ys')) ∧ (3 ≤ w → post (nI (fc_v sz s (w - 3))) (1, te, fl, yk, yl, sz, th, fa, ef, go', gu', ye', yd', wa, al, yc, tr, fd, ys'))) → wpY_state post (kn, te, fl, yk, yl, sz, th, fa, ef, go, gu, ye, yd, wa, al, yc, tr, fd, ys) (nI s) (nI w) := by
      intro post hh
      unfold wpY_state
      refine fy_ns hz (fy_st (by omega) hs (br_f (by decide) (fy_ni (a := 0) (b := 5) (by omega) (by omega) (by omega) (br_f (by decide) (fy_kn S Y K (fun go' gu' ye' yd' ys' KK => ?_))))))
      obtain ⟨p0, p1, p2, p3⟩ := hh go' gu' ye' yd' ys' KK
      rw [nI_clamp (n := s) (by omega)]
      refine pk_eq w 0 (fun e => ⟨vp_in_nI (by omega) (by omega), p0 e⟩) (fun e0 => pk_eq w 1 (fun e => ⟨vp_in_nI (by omega) (by omega), p1 e⟩) (fun e1 => pk_eq w 2 (fun e => ⟨vp_in_nI (by omega) (by omega), p2 e⟩) (fun e2 => ?_)))
      rw [show nI w - 3 = nI (w - 3) from pk_sub (b := 3) (by omega)]
      exact fy_vo hz hs (by omega) (p3 (by omega))
    have val : 3 ≤ w → wX_state_76 (fun r u' => wpY_state (fun r' v' => r' = r ∧ i_Rel (k + 4) u' v') (kn, te, fl, yk, yl, sz, th, fa, ef, go, gu, ye, yd, wa, al, yc, tr, fd, ys) (nI s) (nI w)) (nI s) (nI w) tl fc sz tk ln an fa sk lw hg mv en dp ca rc re ho ae ta ow ts fs := by
      intro w3
      unfold wX_state_76
      rw [show nI w - 3 = nI (w - 3) from pk_sub (b := 3) (by omega)]
      refine fx_vi hz (by omega) (by omega) (ya (fun go' gu' ye' yd' ys' KK => ⟨fun e => absurd e (by omega), fun e => absurd e (by omega), fun e => absurd e (by omega), fun _ => ?_⟩))
      exact ⟨rfl, rfl, rfl, S, Y, Fa, Or.inr ⟨rfl, KK⟩, T, F⟩
    refine pk_eq w 0 (fun e => ?_) (fun e0 => pk_eq w 1 (fun e => ?_) (fun e1 => pk_eq w 2 (fun e => ?_) (fun e2 => pk_eq w 3 (fun e => val (by omega)) (fun e3 => pk_eq w 4 (fun e => val (by omega)) (fun e4 => pk_eq w 5 (fun e => val (by omega)) (fun e5 => absurd w5 (by omega)))))))
    · refine fx_ex S (fun sk' lw' hg' mv' en' dp' XX => ?_)
      rw [nI_clamp (n := s) (by omega)]
      refine ⟨vp_in_nI (by omega) (by omega), ya (fun go' gu' ye' yd' ys' KK => ⟨fun _ => ?_, fun e => absurd e (by omega), fun e => absurd e (by omega), fun e => absurd e (by omega)⟩)⟩
      exact ⟨fg_Du KK.2.2 XX.2 hs, rfl, rfl, S, Y, Fa, Or.inr ⟨rfl, KK⟩, T, F⟩
    · refine fx_ex S (fun sk' lw' hg' mv' en' dp' XX => ?_)
      rw [nI_clamp (n := s) (by omega)]
      refine ⟨vp_in_nI (by omega) (by omega), ya (fun go' gu' ye' yd' ys' KK => ⟨fun e => absurd e (by omega), fun _ => ?_, fun e => absurd e (by omega), fun e => absurd e (by omega)⟩)⟩
      exact ⟨fb_ext (KK.2.1 s hs).2 (XX.1 s hs).2, rfl, rfl, S, Y, Fa, Or.inr ⟨rfl, KK⟩, T, F⟩
    · refine fx_tg S (by omega) (fun sk' r hr => ya (fun go' gu' ye' yd' ys' KK => ⟨fun e => absurd e (by omega), fun e => absurd e (by omega), fun _ => ?_, fun e => absurd e (by omega)⟩))
      exact ⟨fb_ext (KK.2.1 s hs).1 hr, rfl, rfl, S, Y, Fa, Or.inr ⟨rfl, KK⟩, T, F⟩
end FAK
end
section
section FCT
variable {tl fc : Int32} {sz tk ln an fa sk lw hg mv en dp ca rc : Nat → Int32} {re : Nat → Int64} {ho ae ta ow ts fs : Nat → Int32} {kn te fl : Int32} {yk yl th ef : Nat → Int32} {go : Nat → Int64} {gu ye yd : Nat → Int32} {wa al yc : Nat → Int64} {tr fd ys : Nat → Int32}
noncomputable def fq_1 (w N : Nat) (dp en : Nat → Int32) (st : Nat → Nat → Prop) (s : Nat) : Nat :=
  if w = 0 then 1 else if w = 1 then (if dp s = 0 then 1 else 0) else if w = 2 then (if dp s < 0 then 0 else 1)
  else if w = 4 then (if dp s < 0 then 0 else if en s = 0 then 1 else 0) else if w = 5 then (if dp s < 0 then 0 else fg_cn (st s) N) else 0
noncomputable def fq_s (w N : Nat) (dp en : Nat → Int32) (st : Nat → Nat → Prop) : Nat → Nat
  | 0 => 0
  | s + 1 => fq_s w N dp en st s + fq_1 w N dp en st s
def fq_m (dp : Nat → Int32) : Nat → Int32
  | 0 => -1
  | s + 1 => if dp s ≤ fq_m dp s then fq_m dp s else dp s
theorem fq_0 (N : Nat) (dp en : Nat → Int32) (st : Nat → Nat → Prop) : ∀ s, fq_s 0 N dp en st s = s := by
  intro s
  induction s with
  | zero => rfl
  | succ s ih =>
    show fq_s 0 N dp en st s + 1 = s + 1
    rw [ih]
theorem fq_cg {w N : Nat} {dp en dq eq : Nat → Int32} {st : Nat → Nat → Prop} : ∀ s, (∀ i, i < s → dq i = dp i ∧ eq i = en i) → fq_s w N dq eq st s = fq_s w N dp en st s ∧ fq_m dq s = fq_m dp s := by
  intro s
  induction s with
  | zero => intro _; exact ⟨rfl, rfl⟩
  | succ s ih =>
    intro h
    obtain ⟨a, b⟩ := ih (fun i hi => h i (by omega))
    obtain ⟨c, d⟩ := h s (by omega)
    constructor
    · show fq_s w N dq eq st s + fq_1 w N dq eq st s = fq_s w N dp en st s + fq_1 w N dp en st s
      rw [a]
      unfold fq_1
      rw [c, d]
    · show (if dq s ≤ fq_m dq s then fq_m dq s else dq s) = (if dp s ≤ fq_m dp s then fq_m dp s else dp s)
      rw [b, c]
theorem fx_wo {post : Int32 → Prop} (hz : fc_Z sz) {s : Nat} (hs : s < fc_N sz) (hm : fx_mvs sz tk ln an mv s) (h : post (nI (fg_cn (fc_st sz tk ln an s) (fc_N sz)))) : wpX_waysOut post (tl, fc, sz, tk, ln, an, fa, sk, lw, hg, mv, en, dp, ca, rc, re, ho, ae, ta, ow, ts, fs) (nI s) := by
  have hN := fc_N1 hz
  unfold wpX_waysOut
  refine fx_ns hz ?_
  refine pk_loop (fun n i c => wX_waysOut_10 post (nI s) (nI (fc_N sz)) tl fc sz tk ln an fa sk lw hg mv en dp ca rc re ho ae ta ow ts fs n c (nI i)) (fun i c => c = nI (fg_cn (fc_st sz tk ln an s) i)) (fc_N sz) 0 0 (by omega) rfl (fun n c I => ?_) (fun n i c hi I k => ?_)
  · refine pk_le (fc_N sz) (fc_N sz) (fun _ => ?_) (fun z => absurd z (by omega))
    rw [I]; exact h
  · refine pk_le (fc_N sz) i (fun z => absurd z (by omega)) (fun _ => ?_)
    refine pk_eq i s (fun e => ?_) (fun e => ?_)
    · refine nm_r (nI_1 i) (k c ?_)
      rw [fg_cn_f (fun z => z.1 e.symm)]; exact I
    · have hx : nI s * 125 + nI i = nI (s * 125 + i) := by rw [← nI_add, ← pk_mul]; rfl
      rw [hx, nI_clamp (by omega)]
      refine ⟨vp_in_nI (by omega) (by omega), br_c (fun z => ?_) (fun z => ?_)⟩
      · refine nm_r (nI_1 i) (k c ?_)
        rw [fg_cn_f ((fx_mz hm hi (Ne.symm e)).mp z)]; exact I
      · refine nm_e (nm_r (nI_1 i) (k _ ?_))
        rw [fg_cn_t (Classical.byContradiction (fun w => z ((fx_mz hm hi (Ne.symm e)).mpr w))), I, nI_1]
theorem fx_c5 {post : Int32 → SX → Prop} {J : Int32 → Int32 → Prop} (hz : fc_Z sz) {w s c : Nat} {x z0 : Int32} (hw : w ≤ 5) (hs : s < fc_N sz) (hm : fx_mvs sz tk ln an mv s)
    (h0 : z0 = if dp s < 0 then 0 else 1) (hx : x = if w = 3 then fq_m dp s else nI (fq_s w (fc_N sz) dp en (fc_st sz tk ln an) s))
    (k : J (if w = 3 then fq_m dp (s + 1) else nI (fq_s w (fc_N sz) dp en (fc_st sz tk ln an) (s + 1))) (nI (s + 1))) : wX_count_55 post J (nI w) (nI (fc_N sz)) x (nI s) z0 tl fc sz tk ln an fa sk lw hg mv en dp ca rc re ho ae ta ow ts fs := by
  have hN := fc_N1 hz
  have hss : fq_s w (fc_N sz) dp en (fc_st sz tk ln an) (s + 1) = fq_s w (fc_N sz) dp en (fc_st sz tk ln an) s + fq_1 w (fc_N sz) dp en (fc_st sz tk ln an) s := rfl
  have add : ∀ r, w ≠ 3 → fq_1 w (fc_N sz) dp en (fc_st sz tk ln an) s = r → ∀ y, y = x + nI r → J y (nI (s + 1)) := by
    intro r w3 hr y ey
    rw [if_neg w3, hss, hr, ← nI_add] at k
    rw [if_neg w3] at hx
    rw [ey, hx]; exact k
  refine pk_lt w 0 (fun z => absurd z (by omega)) (fun _ => pk_lt 4 w (fun z => ?_) (fun z => ?_))
  · obtain rfl : w = 5 := by omega
    by_cases d : dp s < 0
    · rw [if_pos d] at h0
      refine br_t h0 (fun y ey => nm_r (nI_1 s) (add 0 (by decide) ?_ y ey))
      show (if dp s < 0 then 0 else _) = 0
      rw [if_pos d]
    · rw [if_neg d] at h0
      refine br_f (by rw [h0]; decide) (fx_wo hz hs hm (fun y ey => nm_r (nI_1 s) (add _ (by decide) ?_ y ey)))
      show (if dp s < 0 then 0 else _) = _
      rw [if_neg d]
  · refine pk_eq w 0 (fun e => ?_) (fun e0 => pk_eq w 1 (fun e => ?_) (fun e1 => pk_eq w 2 (fun e => ?_) (fun e2 => pk_eq w 3 (fun e => ?_) (fun e3 => pk_eq w 4 (fun e => ?_) (fun e4 => absurd z (by omega))))))
    · subst e
      exact fun y ey => nm_r (nI_1 s) (add 1 (by decide) rfl y ey)
    · subst e
      rw [nI_clamp (by omega)]
      refine ⟨vp_in_nI (by omega) (by omega), br_c (fun d y ey => nm_r (nI_1 s) (add 1 (by decide) ?_ y ey)) (fun d y ey => nm_r (nI_1 s) (add 0 (by decide) ?_ y ey))⟩
      · show (if dp s = 0 then 1 else 0) = 1
        rw [if_pos d]
      · show (if dp s = 0 then 1 else 0) = 0
        rw [if_neg d]
    · subst e
      by_cases d : dp s < 0
      · rw [if_pos d] at h0
        refine br_t h0 (fun y ey => nm_r (nI_1 s) (add 0 (by decide) ?_ y ey))
        show (if dp s < 0 then 0 else 1) = 0
        rw [if_pos d]
      · rw [if_neg d] at h0
        refine br_f (by rw [h0]; decide) (fun y ey => nm_r (nI_1 s) (add 1 (by decide) ?_ y ey))
        show (if dp s < 0 then 0 else 1) = 1
        rw [if_neg d]
    · subst e
      rw [if_pos rfl] at hx
      rw [if_pos rfl] at k
      have k : J (if dp s ≤ fq_m dp s then fq_m dp s else dp s) (nI (s + 1)) := k
      rw [nI_clamp (by omega), hx]
      refine ⟨vp_in_nI (by omega) (by omega), br_c (fun d => nm_r (nI_1 s) ?_) (fun d => ⟨vp_in_nI (by omega) (by omega), nm_e (nm_r (nI_1 s) ?_)⟩)⟩
      · rw [if_pos d] at k; exact k
      · rw [if_neg d] at k; exact k
    · subst e
      by_cases d : dp s < 0
      · rw [if_pos d] at h0
        refine br_t h0 (fun y ey => nm_r (nI_1 s) (add 0 (by decide) ?_ y ey))
        show (if dp s < 0 then 0 else _) = 0
        rw [if_pos d]
      · rw [if_neg d] at h0
        rw [nI_clamp (by omega)]
        refine br_f (by rw [h0]; decide) ⟨vp_in_nI (by omega) (by omega), br_c (fun q y ey => nm_r (nI_1 s) (add 1 (by decide) ?_ y ey)) (fun q y ey => nm_r (nI_1 s) (add 0 (by decide) ?_ y ey))⟩
        · show (if dp s < 0 then 0 else if en s = 0 then 1 else 0) = 1
          rw [if_neg d, if_pos q]
        · show (if dp s < 0 then 0 else if en s = 0 then 1 else 0) = 0
          rw [if_neg d, if_neg q]
theorem fx_cl {post : Int32 → SX → Prop} (hz : fc_Z sz) {w : Nat} (hw : w ≤ 5) (hm : ∀ s, s < fc_N sz → fx_mvs sz tk ln an mv s) {x : Int32} (hx : x = if w = 3 then fq_m dp 0 else nI (fq_s w (fc_N sz) dp en (fc_st sz tk ln an) 0))
    (hp : post (if w = 3 then fq_m dp (fc_N sz) else nI (fq_s w (fc_N sz) dp en (fc_st sz tk ln an) (fc_N sz))) (tl, fc, sz, tk, ln, an, fa, sk, lw, hg, mv, en, dp, ca, rc, re, ho, ae, ta, ow, ts, fs)) : ∃ n, wX_count_34 post (nI w) (nI (fc_N sz)) tl fc sz tk ln an fa sk lw hg mv en dp ca rc re ho ae ta ow ts fs n x 0 := by
  have hN := fc_N1 hz
  refine pk_loop (fun n i c => wX_count_34 post (nI w) (nI (fc_N sz)) tl fc sz tk ln an fa sk lw hg mv en dp ca rc re ho ae ta ow ts fs n c (nI i)) (fun i c => c = if w = 3 then fq_m dp i else nI (fq_s w (fc_N sz) dp en (fc_st sz tk ln an) i)) (fc_N sz) 0 x (by omega) hx (fun n c I => ?_) (fun n i c hi I k => ?_)
  · refine pk_le (fc_N sz) (fc_N sz) (fun _ => ?_) (fun z => absurd z (by omega))
    rw [I]; exact hp
  · refine pk_le (fc_N sz) i (fun z => absurd z (by omega)) (fun _ => ?_)
    rw [nI_clamp (by omega)]
    refine ⟨vp_in_nI (by omega) (by omega), br_c (fun d => ?_) (fun d => ?_)⟩
    · exact fx_c5 hz (c := 0) hw hi (hm i hi) (by rw [if_pos d]) I (k _ rfl)
    · exact fx_c5 hz (c := 0) hw hi (hm i hi) (by rw [if_neg d]) I (k _ rfl)
/-! Y's count -/
theorem fy_12 {post : Int32 → SY → Prop} {J : Int32 → Int32 → Int32 → Prop} (hz : fc_Z sz) (Y : fy_S tk ln an yk yl th ef) (G : fy_G sz tk ln an go) {w s c : Nat} {m : Int32} (hw : w ≤ 5) (hs : s < fc_N sz)
    (k : J (nI (c + (if w = 5 then (if yd s < 0 then 0 else fg_cn (fc_st sz tk ln an s) (fc_N sz)) else 0))) m (nI (s + 1))) : ∃ n, wY_count_122 post J (nI w) (nI (fc_N sz)) m (nI s) kn te fl yk yl sz th fa ef go gu ye yd wa al yc tr fd ys n (nI c) 0 := by
  have hN := fc_N1 hz
  by_cases w5 : w = 5
  · rw [if_pos w5] at k
    by_cases d : yd s < 0
    · rw [if_pos d, Nat.add_zero] at k
      refine ⟨1, ?_⟩
      refine pk_le (fc_N sz) 0 (fun z => absurd z (by omega)) (fun _ => pk_eq w 5 (fun _ => ?_) (fun z => absurd w5 z))
      rw [nI_clamp (by omega)]
      exact ⟨vp_in_nI (by omega) (by omega), br_t d (nm_r (nI_1 s) k)⟩
    · rw [if_neg d] at k
      refine pk_loop (fun n i x => wY_count_122 post J (nI w) (nI (fc_N sz)) m (nI s) kn te fl yk yl sz th fa ef go gu ye yd wa al yc tr fd ys n x (nI i)) (fun i x => x = nI (c + fg_cn (fc_st sz tk ln an s) i)) (fc_N sz) 0 (nI c) (by omega) rfl (fun n x I => ?_) (fun n i x hi I k2 => ?_)
      · refine pk_le (fc_N sz) (fc_N sz) (fun _ => nm_r (nI_1 s) ?_) (fun z => absurd z (by omega))
        rw [I]; exact k
      · refine pk_le (fc_N sz) i (fun z => absurd z (by omega)) (fun _ => pk_eq w 5 (fun _ => ?_) (fun z => absurd w5 z))
        rw [nI_clamp (by omega)]
        refine ⟨vp_in_nI (by omega) (by omega), br_f d (fy_sp hz Y G hs hi (fun z => br_f (by decide) ?_) (fun z => br_t rfl ?_))⟩
        · refine nm_e (nm_r (nI_1 i) (k2 _ ?_))
          rw [fg_cn_t z, I, nI_1, Nat.add_assoc]
        · refine nm_r (nI_1 i) (k2 _ ?_)
          rw [fg_cn_f z, I]
  · rw [if_neg w5, Nat.add_zero] at k
    refine ⟨1, ?_⟩
    exact pk_le (fc_N sz) 0 (fun z => absurd z (by omega)) (fun _ => pk_eq w 5 (fun z => absurd z w5) (fun _ => nm_r (nI_1 s) k))
theorem fy_61 {post : Int32 → SY → Prop} {J : Int32 → Int32 → Int32 → Prop} (hz : fc_Z sz) (Y : fy_S tk ln an yk yl th ef) (G : fy_G sz tk ln an go) {w s c : Nat} {m : Int32} (hw1 : 1 ≤ w) (hw : w ≤ 5) (hs : s < fc_N sz)
    (k : J (nI (c + fq_1 w (fc_N sz) yd ye (fc_st sz tk ln an) s)) m (nI (s + 1))) : wY_count_61 post J (nI w) (nI (fc_N sz)) (nI c) m (nI s) kn te fl yk yl sz th fa ef go gu ye yd wa al yc tr fd ys := by
  have hN := fc_N1 hz
  have hss : s < 125 := by omega
  have go1 : ∀ r, (fq_1 w (fc_N sz) yd ye (fc_st sz tk ln an) s = r) → w ≠ 5 → ∃ n, wY_count_122 post J (nI w) (nI (fc_N sz)) m (nI s) kn te fl yk yl sz th fa ef go gu ye yd wa al yc tr fd ys n (nI (c + r)) 0 := by
    intro r hr w5
    refine fy_12 hz Y G hw hs ?_
    rw [if_neg w5, Nat.add_zero, ← hr]; exact k
  have t91 : w ≠ 1 → w ≠ 2 → wY_count_91 post J (nI w) (nI (fc_N sz)) (nI c) m (nI s) kn te fl yk yl sz th fa ef go gu ye yd wa al yc tr fd ys := by
    intro n1 n2
    refine pk_eq w 4 (fun e => ?_) (fun e => ?_)
    · subst e
      rw [nI_clamp (by omega)]
      refine ⟨vp_in_nI (by omega) (by omega), br_c (fun d => go1 0 ?_ (by decide)) (fun d => ⟨vp_in_nI (by omega) (by omega), br_c (fun q => nm_r (nI_1 c) (go1 1 ?_ (by decide))) (fun q => go1 0 ?_ (by decide))⟩)⟩
      · show (if yd s < 0 then 0 else _) = 0
        rw [if_pos d]
      · show (if yd s < 0 then 0 else if ye s = 0 then 1 else 0) = 1
        rw [if_neg d, if_pos q]
      · show (if yd s < 0 then 0 else if ye s = 0 then 1 else 0) = 0
        rw [if_neg d, if_neg q]
    · refine fy_12 hz Y G hw hs ?_
      have : fq_1 w (fc_N sz) yd ye (fc_st sz tk ln an) s = (if w = 5 then (if yd s < 0 then 0 else fg_cn (fc_st sz tk ln an s) (fc_N sz)) else 0) := by
        unfold fq_1
        rw [if_neg (by omega), if_neg n1, if_neg n2, if_neg e]
      rw [← this]; exact k
  have t76 : w ≠ 1 → wY_count_76 post J (nI w) (nI (fc_N sz)) (nI c) m (nI s) kn te fl yk yl sz th fa ef go gu ye yd wa al yc tr fd ys := by
    intro n1
    refine pk_eq w 2 (fun e => ?_) (fun e => t91 n1 e)
    subst e
    rw [nI_clamp (by omega)]
    refine ⟨vp_in_nI (by omega) (by omega), br_c (fun d => nm_r (nI_1 c) (go1 1 ?_ (by decide))) (fun d => ?_)⟩
    · show (if yd s < 0 then 0 else 1) = 1
      rw [if_neg (Int32.not_lt.mpr d)]
    · refine br_f (by decide) (go1 0 ?_ (by decide))
      show (if yd s < 0 then 0 else 1) = 0
      rw [if_pos (fn_nl.mp d)]
  refine pk_eq w 1 (fun e => ?_) (fun e => t76 e)
  subst e
  rw [nI_clamp (by omega)]
  refine ⟨vp_in_nI (by omega) (by omega), br_c (fun d => nm_r (nI_1 c) (go1 1 ?_ (by decide))) (fun d => ?_)⟩
  · show (if yd s = 0 then 1 else 0) = 1
    rw [if_pos d]
  · refine br_f (by decide) (br_f (by decide) (go1 0 ?_ (by decide)))
    show (if yd s = 0 then 1 else 0) = 0
    rw [if_neg d]
theorem fy_cl {post : Int32 → SY → Prop} (hz : fc_Z sz) (Y : fy_S tk ln an yk yl th ef) (G : fy_G sz tk ln an go) {w : Nat} (hw1 : 1 ≤ w) (hw : w ≤ 5)
    (hp : post (if w = 3 then fq_m yd (fc_N sz) else nI (fq_s w (fc_N sz) yd ye (fc_st sz tk ln an) (fc_N sz))) (kn, te, fl, yk, yl, sz, th, fa, ef, go, gu, ye, yd, wa, al, yc, tr, fd, ys)) : ∃ n, wY_count_34 post (nI w) (nI (fc_N sz)) kn te fl yk yl sz th fa ef go gu ye yd wa al yc tr fd ys n 0 (-1) 0 := by
  have hN := fc_N1 hz
  refine pk_loop (fun n i (p : Int32 × Int32) => wY_count_34 post (nI w) (nI (fc_N sz)) kn te fl yk yl sz th fa ef go gu ye yd wa al yc tr fd ys n p.1 p.2 (nI i)) (fun i p => p.1 = nI (fq_s w (fc_N sz) yd ye (fc_st sz tk ln an) i) ∧ p.2 = fq_m yd i) (fc_N sz) 0 (0, -1) (by omega) ⟨rfl, rfl⟩ (fun n p I => ?_) (fun n i p hi I k => ?_)
  · obtain ⟨x, m⟩ := p
    obtain ⟨I1, I2⟩ := I
    have I1 : x = _ := I1
    have I2 : m = _ := I2
    refine pk_le (fc_N sz) (fc_N sz) (fun _ => pk_eq w 3 (fun e => ?_) (fun e => ?_)) (fun z => absurd z (by omega))
    · rw [if_pos e] at hp
      dsimp only
      rw [I2]; exact hp
    · rw [if_neg e] at hp
      dsimp only
      rw [I1]; exact hp
  · obtain ⟨x, m⟩ := p
    obtain ⟨I1, I2⟩ := I
    have I1 : x = _ := I1
    have I2 : m = _ := I2
    subst I1 I2
    refine pk_le (fc_N sz) i (fun z => absurd z (by omega)) (fun _ => ?_)
    rw [nI_clamp (by omega)]
    refine ⟨vp_in_nI (by omega) (by omega), br_c (fun d => ?_) (fun d => ⟨vp_in_nI (by omega) (by omega), nm_e ?_⟩)⟩
    · refine fy_61 hz Y G hw1 hw hi (k (_, _) ⟨rfl, ?_⟩)
      show _ = if yd i ≤ fq_m yd i then fq_m yd i else yd i
      rw [if_pos d]
    · refine fy_61 hz Y G hw1 hw hi (k (_, _) ⟨rfl, ?_⟩)
      show _ = if yd i ≤ fq_m yd i then fq_m yd i else yd i
      rw [if_neg d]
theorem i_vc_count {k : Nat} {u : SX} {v : SY} (I : i_Rel k u v) (hk : k + 4 ≤ 2048) (v1 : Int32) : wpX_count (fun r u' => wpY_count (fun r' v' => r' = r ∧ i_Rel (k + 4) u' v') v v1) u v1 := by
  obtain ⟨tl, fc, sz, tk, ln, an, fa, sk, lw, hg, mv, en, dp, ca, rc, re, ho, ae, ta, ow, ts, fs⟩ := u
  obtain ⟨kn, te, fl, yk, yl, vs, th, yf, ef, go, gu, ye, yd, wa, al, yc, tr, fd, ys⟩ := v
  have I : i_Rel (k + 4) (tl, fc, sz, tk, ln, an, fa, sk, lw, hg, mv, en, dp, ca, rc, re, ho, ae, ta, ow, ts, fs) (kn, te, fl, yk, yl, vs, th, yf, ef, go, gu, ye, yd, wa, al, yc, tr, fd, ys) := I
  obtain ⟨rfl, rfl, S, Y, Fa, K, T, F⟩ := id I
  have hz := S.1
  have hN := fc_N1 hz
  have yn : (v1 < 0 ∨ 5 < v1) → wpY_count (fun r' v' => r' = -1 ∧ i_Rel (k + 4) (tl, fc, sz, tk, ln, an, fa, sk, lw, hg, mv, en, dp, ca, rc, re, ho, ae, ta, ow, ts, fs) v') (kn, te, fl, yk, yl, sz, th, fa, ef, go, gu, ye, yd, wa, al, yc, tr, fd, ys) v1 := by
    intro hh
    unfold wpY_count
    refine fy_kn S Y K (fun go' gu' ye' yd' ys' KK => fy_ns hz (br_f ?_ (fy_in (fun a b => absurd hh ?_) (fun _ => br_t rfl ⟨rfl, rfl, rfl, S, Y, Fa, Or.inr ⟨rfl, KK⟩, T, F⟩))))
    · intro e
      rw [e] at hh
      exact absurd hh (by decide)
    · rintro (q | q)
      · exact a (Int32.lt_trans q (by decide))
      · exact b q
  refine br_c (fun z => yn (Or.inl z)) (fun z => br_c (fun z2 => ?_) (fun z2 => yn (Or.inr (fn_nl.mp z2))))
  obtain ⟨w, hw, rfl⟩ := nI_of (x := v1) z
  have w5 : w ≤ 5 := by
    rw [show (5 : Int32) = nI 5 from rfl, nI_leI hw (by omega)] at z2; exact z2
  refine fx_ex S (fun sk' lw' hg' mv' en' dp' XX => fx_ns hz ?_)
  have fin : wpY_count (fun r' v' => r' = (if w = 3 then fq_m dp' (fc_N sz) else nI (fq_s w (fc_N sz) dp' en' (fc_st sz tk ln an) (fc_N sz))) ∧ i_Rel (k + 4) (tl, fc, sz, tk, ln, an, fa, sk', lw', hg', mv', en', dp', ca, rc, re, ho, ae, ta, ow, ts, fs) v') (kn, te, fl, yk, yl, sz, th, fa, ef, go, gu, ye, yd, wa, al, yc, tr, fd, ys) (nI w) := by
    unfold wpY_count
    refine fy_kn S Y K (fun go' gu' ye' yd' ys' KK => fy_ns hz ?_)
    obtain ⟨e1, e2⟩ := fq_cg (w := w) (N := fc_N sz) (st := fc_st sz tk ln an) (dp := dp') (en := en') (dq := yd') (eq := ye') (fc_N sz) (fun i hi => ⟨fg_Du KK.2.2 XX.2 hi, fb_ext (KK.2.1 i hi).2 (XX.1 i hi).2⟩)
    refine pk_eq w 0 (fun e => ⟨?_, rfl, rfl, S, Y, Fa, Or.inr ⟨rfl, KK⟩, T, F⟩) (fun e => ?_)
    · subst e
      rw [if_neg (by decide), fq_0]
    · refine fy_ni (a := 1) (b := 5) (by omega) (by omega) (by omega) (br_f (by decide) (fy_cl hz Y KK.1 (by omega) w5 ⟨?_, rfl, rfl, S, Y, Fa, Or.inr ⟨rfl, KK⟩, T, F⟩))
      rw [e1, e2]
  refine pk_eq w 3 (fun e => ?_) (fun e => ?_)
  · exact fx_cl hz w5 (fun s hs => (XX.1 s hs).1) (by rw [if_pos e]; rfl) fin
  · exact fx_cl hz w5 (fun s hs => (XX.1 s hs).1) (by rw [if_neg e]; rfl) fin
end FCT
end
section
section FXI
variable {tl fc : Int32} {sz tk ln an fa sk lw hg mv en dp ca rc : Nat → Int32} {re : Nat → Int64} {ho ae ta ow ts fs : Nat → Int32} {I0 : Nat → Prop} {st : Nat → Nat → Prop} {Br : Nat → Prop}
/-! the least depth of a breach -/
def fi_b (dp : Nat → Int32) (br : Nat → Bool) : Nat → Int32
  | 0 => -1
  | s + 1 => if dp s < 0 then fi_b dp br s else if br s then (if fi_b dp br s < 0 then dp s else if fi_b dp br s ≤ dp s then fi_b dp br s else dp s) else fi_b dp br s
theorem fi_bc {dp dq : Nat → Int32} {br : Nat → Bool} : ∀ s, (∀ i, i < s → dq i = dp i) → fi_b dq br s = fi_b dp br s := by
  intro s
  induction s with
  | zero => intro _; rfl
  | succ s ih =>
    intro h
    show (if dq s < 0 then fi_b dq br s else if br s then (if fi_b dq br s < 0 then dq s else if fi_b dq br s ≤ dq s then fi_b dq br s else dq s) else fi_b dq br s) = _
    rw [ih (fun i hi => h i (by omega)), h s (by omega)]
    rfl
theorem fi_bx {dp : Nat → Int32} {br : Nat → Bool} : ∀ s, fi_b dp br s = -1 ∨ ∃ i, i < s ∧ ¬ dp i < 0 ∧ br i = true ∧ fi_b dp br s = dp i := by
  intro s
  induction s with
  | zero => exact Or.inl rfl
  | succ s ih =>
    have e : fi_b dp br (s + 1) = (if dp s < 0 then fi_b dp br s else if br s then (if fi_b dp br s < 0 then dp s else if fi_b dp br s ≤ dp s then fi_b dp br s else dp s) else fi_b dp br s) := rfl
    have keep : fi_b dp br (s + 1) = fi_b dp br s → fi_b dp br (s + 1) = -1 ∨ ∃ i, i < s + 1 ∧ ¬ dp i < 0 ∧ br i = true ∧ fi_b dp br (s + 1) = dp i := by
      intro q
      rw [q]
      rcases ih with h | ⟨i, hi, h⟩
      · exact Or.inl h
      · exact Or.inr ⟨i, by omega, h⟩
    by_cases d : dp s < 0
    · rw [if_pos d] at e; exact keep e
    · rw [if_neg d] at e
      by_cases b : br s = true
      · rw [if_pos b] at e
        by_cases c : fi_b dp br s < 0
        · rw [if_pos c] at e; exact Or.inr ⟨s, by omega, d, b, e⟩
        · rw [if_neg c] at e
          by_cases f : fi_b dp br s ≤ dp s
          · rw [if_pos f] at e; exact keep e
          · rw [if_neg f] at e; exact Or.inr ⟨s, by omega, d, b, e⟩
      · rw [if_neg b] at e; exact keep e
theorem fx_lb {post : Int32 → SX → Prop} (hz : fc_Z sz) (ok : fc_ok tk ln 0)
    (hp : ∀ sk', post (fi_b dp (fun s => decide (fc_w sz tk ln 0 s = 0)) (fc_N sz)) (tl, fc, sz, tk, ln, an, fa, sk', lw, hg, mv, en, dp, ca, rc, re, ho, ae, ta, ow, ts, fs)) : wpX_leastDepthOfBreach post (tl, fc, sz, tk, ln, an, fa, sk, lw, hg, mv, en, dp, ca, rc, re, ho, ae, ta, ow, ts, fs) := by
  have hN := fc_N1 hz
  unfold wpX_leastDepthOfBreach
  refine fx_ns hz ?_
  have hL0 : fc_L ln 0 ≠ 0 := fun z => by have := ok.2; rw [z] at this; exact fc_ex0 this
  refine pk_loop (fun n i p => wX_leastDepthOfBreach_9 post (nI (fc_N sz)) n p.1 (nI i) tl fc sz tk ln an fa p.2 lw hg mv en dp ca rc re ho ae ta ow ts fs) (fun i (p : Int32 × (Nat → Int32)) => p.1 = fi_b dp (fun s => decide (fc_w sz tk ln 0 s = 0)) i) (fc_N sz) 0 (-1, sk) (by omega) rfl (fun n p I => ?_) (fun n i p hi I k => ?_)
  · obtain ⟨x, sk⟩ := p
    have I : x = _ := I
    subst I
    exact pk_le (fc_N sz) (fc_N sz) (fun _ => hp sk) (fun z => absurd z (by omega))
  · obtain ⟨x, sk⟩ := p
    have I : x = _ := I
    have k : ∀ sk' y, y = (if dp i < 0 then x else if decide (fc_w sz tk ln 0 i = 0) = true then (if x < 0 then dp i else if x ≤ dp i then x else dp i) else x) → wX_leastDepthOfBreach_9 post (nI (fc_N sz)) n y (nI (i + 1)) tl fc sz tk ln an fa sk' lw hg mv en dp ca rc re ho ae ta ow ts fs := by
      intro sk' y ey
      refine k (y, sk') ?_
      show y = _
      rw [ey, I]; rfl
    refine pk_le (fc_N sz) i (fun z => absurd z (by omega)) (fun _ => ?_)
    rw [nI_clamp (by omega)]
    have t41 : x = (if dp i < 0 then x else if decide (fc_w sz tk ln 0 i = 0) = true then (if x < 0 then dp i else if x ≤ dp i then x else dp i) else x) → wX_leastDepthOfBreach_41 post (wX_leastDepthOfBreach_9 post (nI (fc_N sz)) n) (nI (fc_N sz)) x (nI i) tl fc sz tk ln an fa sk lw hg mv en dp ca rc re ho ae ta ow ts fs := fun e => br_t rfl (nm_r (nI_1 i) (k sk _ e))
    have t37 : ¬ dp i < 0 → (x < 0 ∨ ¬ x ≤ dp i) → wX_leastDepthOfBreach_37 post (wX_leastDepthOfBreach_9 post (nI (fc_N sz)) n) (nI (fc_N sz)) x (nI i) tl fc sz tk ln an fa sk lw hg mv en dp ca rc re ho ae ta ow ts fs := by
      intro d c
      refine br_f (by decide) ?_
      refine fx_is hz (j := 0) (by omega) (by omega) (Or.inr ok) ok.1.1 ok.1.2.1 (fun sk' => ?_)
      rw [nI_clamp (by omega)]
      have etr : fc_tr sz tk ln 0 i = decide (fc_w sz tk ln 0 i ≠ 0) := by
        unfold fc_tr; rw [decide_eq_false hL0, Bool.false_or]
      rw [etr]
      by_cases e : fc_w sz tk ln 0 i = 0
      · refine br_t (by rw [decide_eq_false (fun q => q e)]; rfl) ⟨vp_in_nI (by omega) (by omega), nm_e (nm_r (nI_1 i) (k sk' _ ?_))⟩
        rw [if_neg d, decide_eq_true e, if_pos rfl]
        rcases c with c | c
        · rw [if_pos c]
        · by_cases c2 : x < 0
          · rw [if_pos c2]
          · rw [if_neg c2, if_neg c]
      · refine br_f (by rw [decide_eq_true e]; decide) (nm_r (nI_1 i) (k sk' _ ?_))
        rw [if_neg d, decide_eq_false e]; rfl
    refine ⟨vp_in_nI (by omega) (by omega), br_c (fun d => t41 (by rw [if_pos d])) (fun d => br_c (fun c => t37 d (Or.inl c)) (fun c => ⟨vp_in_nI (by omega) (by omega), br_c (fun f => t41 ?_) (fun f => t37 d (Or.inr f))⟩))⟩
    rw [if_neg d, if_neg c, if_pos f]
    by_cases q : decide (fc_w sz tk ln 0 i = 0) = true
    · rw [if_pos q]
    · rw [if_neg q]
/-! ways to a breach -/
def fi_ow (ow : Nat → Int32) (N : Nat) (P : Nat → Prop) : Prop := ∀ s, s < N → (ow s = 0 ∧ ¬ P s) ∨ (ow s = 1 ∧ P s)
theorem fi_on {ow : Nat → Int32} {N : Nat} {P : Nat → Prop} (h : fi_ow ow N P) {s : Nat} (hs : s < N) : ow s = 0 ↔ ¬ P s := by
  rcases h s hs with ⟨a, b⟩ | ⟨a, b⟩
  · exact ⟨fun _ => b, fun _ => a⟩
  · exact ⟨fun z => absurd (a.symm.trans z) (by decide), fun z => absurd b z⟩
theorem fx_fw {post : Int32 → Prop} (hz : fc_Z sz) {s k : Nat} (hs : s < fc_N sz) (hk : k < 2 ^ 31)
    (h1 : ∀ t, t < fc_N sz → dp t = nI k → ¬ ow t = 0 → ¬ mv (s * 125 + t) = 0 → (∀ t', t' < t → ¬ (dp t' = nI k ∧ ¬ ow t' = 0 ∧ ¬ mv (s * 125 + t') = 0)) → post (nI t))
    (h0 : (∀ t, t < fc_N sz → ¬ (dp t = nI k ∧ ¬ ow t = 0 ∧ ¬ mv (s * 125 + t) = 0)) → post (-1)) : wpX_firstOnWay post (tl, fc, sz, tk, ln, an, fa, sk, lw, hg, mv, en, dp, ca, rc, re, ho, ae, ta, ow, ts, fs) (nI s) (nI k) := by
  have hN := fc_N1 hz
  unfold wpX_firstOnWay
  refine fx_ns hz ?_
  refine pk_loop (fun n i (_ : Unit) => wX_firstOnWay_8 post (nI s) (nI k) (nI (fc_N sz)) tl fc sz tk ln an fa sk lw hg mv en dp ca rc re ho ae ta ow ts fs n (nI i)) (fun i _ => ∀ t, t < i → ¬ (dp t = nI k ∧ ¬ ow t = 0 ∧ ¬ mv (s * 125 + t) = 0)) (fc_N sz) 0 () (by omega) (fun t ht => absurd ht (by omega)) (fun n _ I => ?_) (fun n i _ hi I kk => ?_)
  · exact pk_le (fc_N sz) (fc_N sz) (fun _ => h0 I) (fun z => absurd z (by omega))
  · refine pk_le (fc_N sz) i (fun z => absurd z (by omega)) (fun _ => ?_)
    have hx : nI s * 125 + nI i = nI (s * 125 + i) := by rw [← nI_add, ← pk_mul]; rfl
    rw [hx, nI_clamp (by omega), nI_clamp (by omega)]
    have skip : ¬ (dp i = nI k ∧ ¬ ow i = 0 ∧ ¬ mv (s * 125 + i) = 0) → wX_firstOnWay_8 post (nI s) (nI k) (nI (fc_N sz)) tl fc sz tk ln an fa sk lw hg mv en dp ca rc re ho ae ta ow ts fs n (nI (i + 1)) := by
      intro q
      refine kk () (fun t ht => ?_)
      by_cases e : t = i
      · subst e; exact q
      · exact I t (by omega)
    refine ⟨vp_in_nI (by omega) (by omega), br_c (fun a => ⟨vp_in_nI (by omega) (by omega), br_c (fun b => nm_r (nI_1 i) (skip (fun q => q.2.1 b))) (fun b => ⟨vp_in_nI (by omega) (by omega), br_c (fun c => nm_r (nI_1 i) (skip (fun q => q.2.2 c))) (fun c => h1 i hi a b c I)⟩)⟩) (fun a => nm_r (nI_1 i) (skip (fun q => a q.1)))⟩
theorem fx_mw {post : SX → Prop} (hz : fc_Z sz) (ok : fc_ok tk ln 0) (hD : fg_D (fc_N sz) I0 st dp) (hm : ∀ s t, s < fc_N sz → t < fc_N sz → s ≠ t → (mv (s * 125 + t) = 0 ↔ ¬ st s t)) {d : Nat} (hd : d < 125) (hBr : ∀ s, Br s ↔ fc_w sz tk ln 0 s = 0)
    (hp : ∀ sk' ow', fi_ow ow' (fc_N sz) (fg_A (fc_N sz) I0 st Br d 0) → post (tl, fc, sz, tk, ln, an, fa, sk', lw, hg, mv, en, dp, ca, rc, re, ho, ae, ta, ow', ts, fs)) : wpX_markWaysToBreach post (tl, fc, sz, tk, ln, an, fa, sk, lw, hg, mv, en, dp, ca, rc, re, ho, ae, ta, ow, ts, fs) (nI d) := by
  have hN := fc_N1 hz
  have hL0 : fc_L ln 0 ≠ 0 := fun z => by have := ok.2; rw [z] at this; exact fc_ex0 this
  unfold wpX_markWaysToBreach
  refine fx_ns hz ?_
  refine pk_loop (fun n i p => wX_markWaysToBreach_7 post (nI d) (nI (fc_N sz)) n (nI i) tl fc sz tk ln an fa p.1 lw hg mv en dp ca rc re ho ae ta p.2 ts fs) (fun i (p : (Nat → Int32) × (Nat → Int32)) => fi_ow p.2 i (fg_A (fc_N sz) I0 st Br d d)) (fc_N sz) 0 (sk, ow) (by omega) (fun t ht => absurd ht (by omega)) (fun n p I => ?_) (fun n i p hi I k => ?_)
  · obtain ⟨sk, ow⟩ := p
    refine pk_le (fc_N sz) (fc_N sz) (fun _ => nm_r (fn_sub1 _) ?_) (fun z => absurd z (by omega))
    refine ⟨d + 1, pk_loopD (fun n k ow => wX_markWaysToBreach_52 post (nI (fc_N sz)) tl fc n (nI k + (-1)) sz tk ln an fa sk lw hg mv en dp ca rc re ho ae ta ow ts fs) (fun k ow => k ≤ d ∧ fi_ow ow (fc_N sz) (fg_A (fc_N sz) I0 st Br d k)) (fun n ow J => ?_) (fun n k ow J kk => ?_) d ow ⟨Nat.le_refl _, I⟩⟩
    · exact br_t (by decide) (hp sk ow J.2)
    · obtain ⟨J1, J2⟩ := J
      rw [pk_m1]
      refine br_f (nI_pos (by omega)) ?_
      refine pk_loop (fun n' i ow => wX_markWaysToBreach_59 post (wX_markWaysToBreach_52 post (nI (fc_N sz)) tl fc n) (nI (fc_N sz)) (nI k) tl fc n' (nI i) sz tk ln an fa sk lw hg mv en dp ca rc re ho ae ta ow ts fs) (fun i ow => fi_ow ow (fc_N sz) (fun s => (s < i ∧ fg_A (fc_N sz) I0 st Br d k s) ∨ (i ≤ s ∧ fg_A (fc_N sz) I0 st Br d (k + 1) s))) (fc_N sz) 0 ow (by omega) (fun s hs => ?_) (fun n' ow L => ?_) (fun n' i ow hi L k2 => ?_)
      · exact (J2 s hs).imp (fun q => ⟨q.1, fun w => w.elim (fun w => absurd w.1 (by omega)) (fun w => q.2 w.2)⟩) (fun q => ⟨q.1, Or.inr ⟨by omega, q.2⟩⟩)
      · refine pk_le (fc_N sz) (fc_N sz) (fun _ => nm_e (kk ow ⟨by omega, fun s hs => ?_⟩)) (fun z => absurd z (by omega))
        exact (L s hs).imp (fun q => ⟨q.1, fun w => q.2 (Or.inl ⟨hs, w⟩)⟩) (fun q => ⟨q.1, q.2.elim (fun w => w.2) (fun w => absurd w.1 (by omega))⟩)
      · refine pk_le (fc_N sz) i (fun z => absurd z (by omega)) (fun _ => ?_)
        rw [nI_clamp (by omega)]
        have hF := fg_Dd (d := k) (s := i) (by omega) hD hi (by omega)
        have fin : ∀ x, ((x = 0 ∧ ¬ fg_A (fc_N sz) I0 st Br d k i) ∨ (x = 1 ∧ fg_A (fc_N sz) I0 st Br d k i)) → wX_markWaysToBreach_59 post (wX_markWaysToBreach_52 post (nI (fc_N sz)) tl fc n) (nI (fc_N sz)) (nI k) tl fc n' (nI (i + 1)) sz tk ln an fa sk lw hg mv en dp ca rc re ho ae ta (upd ow i x) ts fs := by
          intro x hx
          refine k2 _ (fun s hs => ?_)
          by_cases e : s = i
          · subst e
            rw [pk_us]
            exact hx.imp (fun q => ⟨q.1, fun w => w.elim (fun w => q.2 w.2) (fun w => absurd w.1 (by omega))⟩) (fun q => ⟨q.1, Or.inl ⟨by omega, q.2⟩⟩)
          · rw [pk_un e]
            exact (L s hs).imp (fun q => ⟨q.1, fun w => q.2 (w.imp (fun w => ⟨by omega, w.2⟩) (fun w => ⟨by omega, w.2⟩))⟩) (fun q => ⟨q.1, q.2.imp (fun w => ⟨by omega, w.2⟩) (fun w => ⟨by omega, w.2⟩)⟩)
        refine ⟨vp_in_nI (by omega) (by omega), br_c (fun e => ?_) (fun e => nm_r (nI_1 i) (k2 ow (fun s hs => ?_)))⟩
        · have f := hF.mp e
          have key : ∀ t, t < fc_N sz → ((dp t = nI (k + 1) ∧ ¬ ow t = 0 ∧ ¬ mv (i * 125 + t) = 0) ↔ (fg_F (fc_N sz) I0 st (k + 1) t ∧ fg_A (fc_N sz) I0 st Br d (k + 1) t ∧ st i t)) := by
            intro t ht
            rw [fg_Dd (by omega) hD ht (by omega)]
            constructor
            · rintro ⟨a, b, c⟩
              have hne : i ≠ t := by rintro rfl; have := fg_Fu f a; omega
              have hnk : ¬ fg_F (fc_N sz) I0 st k t := fun w => by have := fg_Fu a w; omega
              rw [fi_on L ht] at b
              rw [hm i t hi ht hne] at c
              have b := Classical.byContradiction b
              refine ⟨a, ?_, Classical.byContradiction c⟩
              rcases b with b | b
              · exact (fg_An (by omega) hnk).mp b.2
              · exact b.2
            · rintro ⟨a, b, c⟩
              have hne : i ≠ t := by rintro rfl; have := fg_Fu f a; omega
              have hnk : ¬ fg_F (fc_N sz) I0 st k t := fun w => by have := fg_Fu a w; omega
              rw [fi_on L ht, hm i t hi ht hne]
              refine ⟨a, fun w => w ?_, fun w => w c⟩
              by_cases q : t < i
              · exact Or.inl ⟨q, (fg_An (by omega) hnk).mpr b⟩
              · exact Or.inr ⟨by omega, b⟩
          rw [nI_1 k, fn_b0, fn_b1]
          refine fx_fw hz hi (by omega) (fun t ht a b c _ => ?_) (fun no => ?_)
          · refine br_f (nI_pos (by omega)) ⟨vp_in_nI (by omega) (by omega), nm_e (nm_r (nI_1 i) (fin 1 (Or.inr ⟨rfl, (fg_Ak (by omega) f).mpr ?_⟩)))⟩
            obtain ⟨q1, q2, q3⟩ := (key t ht).mp ⟨a, b, c⟩
            exact ⟨t, ht, q1, q2, q3⟩
          · refine br_t (by decide) ⟨vp_in_nI (by omega) (by omega), nm_e (nm_r (nI_1 i) (fin 0 (Or.inl ⟨rfl, fun w => ?_⟩)))⟩
            obtain ⟨t, ht, q⟩ := (fg_Ak (by omega) f).mp w
            exact no t ht ((key t ht).mpr q)
        · have f : ¬ fg_F (fc_N sz) I0 st k i := fun w => e (hF.mpr w)
          have := fg_An (Br := Br) (en := d) (by omega) f
          by_cases q : s = i
          · subst q
            exact (L s hs).imp (fun q => ⟨q.1, fun w => q.2 (w.elim (fun w => Or.inr ⟨by omega, this.mp w.2⟩) (fun w => absurd w.1 (by omega)))⟩) (fun q => ⟨q.1, q.2.elim (fun w => absurd w.1 (by omega)) (fun w => Or.inl ⟨by omega, this.mpr w.2⟩)⟩)
          · exact (L s hs).imp (fun q => ⟨q.1, fun w => q.2 (w.imp (fun w => ⟨by omega, w.2⟩) (fun w => ⟨by omega, w.2⟩))⟩) (fun q => ⟨q.1, q.2.imp (fun w => ⟨by omega, w.2⟩) (fun w => ⟨by omega, w.2⟩)⟩)
  · obtain ⟨sk, ow⟩ := p
    refine pk_le (fc_N sz) i (fun z => absurd z (by omega)) (fun _ => ?_)
    rw [nI_clamp (by omega), fn_b0, fn_b1]
    have hF := fg_Dd (d := d) (s := i) (by omega) hD hi (by omega)
    have fin : ∀ sk' x, ((x = 0 ∧ ¬ fg_A (fc_N sz) I0 st Br d d i) ∨ (x = 1 ∧ fg_A (fc_N sz) I0 st Br d d i)) → wX_markWaysToBreach_7 post (nI d) (nI (fc_N sz)) n (nI (i + 1)) tl fc sz tk ln an fa sk' lw hg mv en dp ca rc re ho ae ta (upd ow i x) ts fs := by
      intro sk' x hx
      refine k (sk', _) (fun s hs => ?_)
      show (upd ow i x s = 0 ∧ _) ∨ (upd ow i x s = 1 ∧ _)
      by_cases e : s = i
      · subst e; rw [pk_us]; exact hx
      · rw [pk_un e]; exact I s (by omega)
    refine ⟨vp_in_nI (by omega) (by omega), br_c (fun e => ?_) (fun e => ⟨vp_in_nI (by omega) (by omega), nm_e (nm_r (nI_1 i) (fin sk 0 (Or.inl ⟨rfl, fun w => e (hF.mpr (fg_Ae.mp w).1)⟩)))⟩)⟩
    refine fx_is hz (j := 0) (by omega) (by omega) (Or.inr ok) ok.1.1 ok.1.2.1 (fun sk' => ?_)
    have etr : fc_tr sz tk ln 0 i = decide (fc_w sz tk ln 0 i ≠ 0) := by
      unfold fc_tr; rw [decide_eq_false hL0, Bool.false_or]
    rw [etr]
    by_cases b : fc_w sz tk ln 0 i = 0
    · exact br_t (by rw [decide_eq_false (fun q => q b)]; rfl) ⟨vp_in_nI (by omega) (by omega), nm_e (nm_r (nI_1 i) (fin sk' 1 (Or.inr ⟨rfl, fg_Ae.mpr ⟨hF.mp e, (hBr i).mpr b⟩⟩)))⟩
    · exact br_f (by rw [decide_eq_true b]; decide) ⟨vp_in_nI (by omega) (by omega), nm_e (nm_r (nI_1 i) (fin sk' 0 (Or.inl ⟨rfl, fun w => b ((hBr i).mp (fg_Ae.mp w).2)⟩)))⟩
end FXI
end
section
section FXT
variable {tl fc : Int32} {sz tk ln an fa sk lw hg mv en dp ca rc : Nat → Int32} {re : Nat → Int64} {ho ae ta ow ts fs : Nat → Int32} {I0 : Nat → Prop} {st : Nat → Nat → Prop} {Br : Nat → Prop}
/-- a row of states as kept in an array -/
def fi_T (N : Nat) (I0 : Nat → Prop) (st : Nat → Nat → Prop) (Br : Nat → Prop) (d m : Nat) (ts : Nat → Int32) (T : Nat → Nat) : Prop :=
  fg_tr N I0 st Br d T m ∧ ∀ j, j ≤ m → T j < N ∧ ts j = nI (T j)
theorem fi_T0 {N d s : Nat} {ts : Nat → Int32} (h : fg_t0 N I0 st Br d s) : fi_T N I0 st Br d 0 (upd ts 0 (nI s)) (fun _ => s) := by
  refine ⟨⟨h, fun k hk => absurd hk (by omega)⟩, fun j hj => ⟨fg_Flt h.1.1, ?_⟩⟩
  rw [show j = 0 by omega, pk_us]
theorem fi_Ts {N d m t : Nat} {ts : Nat → Int32} {T : Nat → Nat} (h : fi_T N I0 st Br d m ts T) (k : fg_t1 N I0 st Br d m (T m) t) : fi_T N I0 st Br d (m + 1) (upd ts (m + 1) (nI t)) (fun j => if j = m + 1 then t else T j) := by
  obtain ⟨⟨h0, h1⟩, h2⟩ := h
  refine ⟨⟨?_, fun i hi => ?_⟩, fun j hj => ?_⟩
  · show fg_t0 N I0 st Br d (if 0 = m + 1 then t else T 0)
    rw [if_neg (by omega)]; exact h0
  · show fg_t1 N I0 st Br d i (if i = m + 1 then t else T i) (if i + 1 = m + 1 then t else T (i + 1))
    rw [if_neg (by omega)]
    by_cases e : i = m
    · subst e; rw [if_pos rfl]; exact k
    · rw [if_neg (by omega)]; exact h1 i (by omega)
  · show (if j = m + 1 then t else T j) < N ∧ upd ts (m + 1) (nI t) j = nI (if j = m + 1 then t else T j)
    by_cases e : j = m + 1
    · rw [if_pos e, e, pk_us]; exact ⟨fg_Flt k.1.1, rfl⟩
    · rw [if_neg e, pk_un e]; exact h2 j (by omega)
/-- the state at place m is on a way and of depth m -/
theorem fi_Tm {N d m : Nat} {ts : Nat → Int32} {T : Nat → Nat} (h : fi_T N I0 st Br d m ts T) : fg_F N I0 st m (T m) ∧ fg_A N I0 st Br d 0 (T m) := by
  cases m with
  | zero => exact h.1.1.1
  | succ m =>
    have := h.1.2 m (by omega)
    exact ⟨this.1.1, this.1.2.1⟩
theorem fi_nx {N d m : Nat} {ts : Nat → Int32} {T : Nat → Nat} (hm : m < d) (h : fi_T N I0 st Br d m ts T) : ∃ t, t < N ∧ fg_F N I0 st (m + 1) t ∧ fg_A N I0 st Br d 0 t ∧ st (T m) t := by
  obtain ⟨a, b⟩ := fi_Tm h
  obtain ⟨t, ht, f, g, e⟩ := (fg_Ak hm a).mp ((fg_A0 a).mp b)
  exact ⟨t, ht, f, (fg_A0 f).mpr g, e⟩
theorem fx_kt {post : SX → Prop} (hz : fc_Z sz) (hD : fg_D (fc_N sz) I0 st dp) (hm : ∀ s t, s < fc_N sz → t < fc_N sz → s ≠ t → (mv (s * 125 + t) = 0 ↔ ¬ st s t)) {d : Nat} (hd : d < 125) (hO : fi_ow ow (fc_N sz) (fg_A (fc_N sz) I0 st Br d 0)) (hx : ∃ s, fg_F (fc_N sz) I0 st d s ∧ Br s)
    (hp : ∀ ts' T, fi_T (fc_N sz) I0 st Br d d ts' T → post (nI (d + 1), fc, sz, tk, ln, an, fa, sk, lw, hg, mv, en, dp, ca, rc, re, ho, ae, ta, ow, ts', fs)) : wpX_keepFirstTrace post (tl, fc, sz, tk, ln, an, fa, sk, lw, hg, mv, en, dp, ca, rc, re, ho, ae, ta, ow, ts, fs) (nI d) := by
  have hN := fc_N1 hz
  have hP : ∀ t, t < fc_N sz → ((dp t = 0 ∧ ¬ ow t = 0) ↔ (fg_F (fc_N sz) I0 st 0 t ∧ fg_A (fc_N sz) I0 st Br d 0 t)) := by
    intro t ht
    rw [fi_on hO ht]
    have := fg_Dd (d := 0) (by omega) hD ht (by omega)
    exact ⟨fun q => ⟨this.mp q.1, Classical.byContradiction q.2⟩, fun q => ⟨this.mpr q.1, fun w => w q.2⟩⟩
  unfold wpX_keepFirstTrace
  refine fx_ns hz (nm_r (fn_sub1 _) ?_)
  refine ⟨fc_N sz + 1, pk_loopD (fun n k x => wX_keepFirstTrace_12 post (nI d) tl fc sz tk ln an fa sk lw hg mv en dp ca rc re ho ae ta ow ts fs n x (nI k + (-1))) (fun k x => k ≤ fc_N sz ∧ ((∃ t, k ≤ t ∧ t < fc_N sz ∧ (dp t = 0 ∧ ¬ ow t = 0) ∧ x = nI t ∧ ∀ t', k ≤ t' → t' < t → ¬ (dp t' = 0 ∧ ¬ ow t' = 0)) ∨ ∀ t, k ≤ t → t < fc_N sz → ¬ (dp t = 0 ∧ ¬ ow t = 0))) (fun n x J => ?_) (fun n k x J kk => ?_) (fc_N sz) 0 ⟨Nat.le_refl _, Or.inr (fun t a b => absurd a (by omega))⟩⟩
  · obtain ⟨_, J⟩ := J
    have h0 : ∃ s, fg_t0 (fc_N sz) I0 st Br d s ∧ x = nI s := by
      rcases J with ⟨t, _, ht, q, e, l⟩ | no
      · exact ⟨t, ⟨(hP t ht).mp q, fun t' ht' w => l t' (by omega) ht' ((hP t' (by omega)).mpr w)⟩, e⟩
      · obtain ⟨s, hs⟩ := fg_wx hx d (Nat.le_refl _)
        have f := fg_wF hs
        rw [Nat.sub_self] at f
        exact absurd ((hP s (fg_Flt f)).mpr ⟨f, d, by omega, hs⟩) (no s (by omega) (fg_Flt f))
    obtain ⟨s, ht0, rfl⟩ := h0
    refine br_t (by decide) (nm_e ?_)
    refine pk_loop (fun n i p => wX_keepFirstTrace_56 post (nI d) tl fc n p.1 (nI i) sz tk ln an fa sk lw hg mv en dp ca rc re ho ae ta ow p.2 fs) (fun i (p : Int32 × (Nat → Int32)) => 1 ≤ i ∧ ∃ T, fi_T (fc_N sz) I0 st Br d (i - 1) p.2 T ∧ p.1 = nI (T (i - 1))) (d + 1) 1 (nI s, upd ts 0 (nI s)) (by omega) ⟨Nat.le_refl _, (fun _ => s), fi_T0 ht0, rfl⟩ (fun n p L => ?_) (fun n i p hi L k2 => ?_)
    · obtain ⟨x, ts⟩ := p
      obtain ⟨_, T, hT, _⟩ := L
      refine pk_lt d (d + 1) (fun _ => nm_r (nI_1 d) (hp ts T hT)) (fun z => absurd z (by omega))
    · obtain ⟨x, ts⟩ := p
      obtain ⟨h1, T, hT0, ex0⟩ := L
      obtain ⟨m, rfl⟩ : ∃ m, i = m + 1 := ⟨i - 1, by omega⟩
      have hT : fi_T (fc_N sz) I0 st Br d m ts T := hT0
      have ex : x = nI (T m) := ex0
      subst ex
      obtain ⟨fm, am⟩ := fi_Tm hT
      have hTm := fg_Flt fm
      refine pk_lt d (m + 1) (fun z => absurd z (by omega)) (fun _ => ?_)
      have key : ∀ t, t < fc_N sz → ((dp t = nI (m + 1) ∧ ¬ ow t = 0 ∧ ¬ mv (T m * 125 + t) = 0) ↔ (fg_F (fc_N sz) I0 st (m + 1) t ∧ fg_A (fc_N sz) I0 st Br d 0 t ∧ st (T m) t)) := by
        intro t ht
        rw [fg_Dd (by omega) hD ht (by omega), fi_on hO ht]
        constructor
        · rintro ⟨a, b, c⟩
          have hne : T m ≠ t := by intro e; rw [e] at fm; have := fg_Fu fm a; omega
          rw [hm _ t hTm ht hne] at c
          exact ⟨a, Classical.byContradiction b, Classical.byContradiction c⟩
        · rintro ⟨a, b, c⟩
          have hne : T m ≠ t := by intro e; rw [e] at fm; have := fg_Fu fm a; omega
          rw [hm _ t hTm ht hne]
          exact ⟨a, fun w => w b, fun w => w c⟩
      refine fx_fw hz hTm (by omega) (fun t ht a b c l => ?_) (fun no => ?_)
      · rw [nI_clamp (by omega)]
        have q := (key t ht).mp ⟨a, b, c⟩
        refine ⟨vp_in_nI (by omega) (by omega), nm_e (nm_r (nI_1 (m + 1)) (k2 (nI t, _) ⟨by omega, _, fi_Ts hT ⟨q, fun t' ht' w => l t' ht' ((key t' (by omega)).mpr w)⟩, ?_⟩))⟩
        show nI t = nI (if m + 1 = m + 1 then t else _)
        rw [if_pos rfl]
      · obtain ⟨t, ht, q⟩ := fi_nx (by omega) hT
        exact absurd ((key t ht).mpr q) (no t ht)
  · obtain ⟨J1, J⟩ := J
    rw [pk_m1]
    have skip : ¬ (dp k = 0 ∧ ¬ ow k = 0) → wX_keepFirstTrace_12 post (nI d) tl fc sz tk ln an fa sk lw hg mv en dp ca rc re ho ae ta ow ts fs n x (nI k + (-1)) := by
      intro q
      refine kk x ⟨by omega, ?_⟩
      rcases J with ⟨t, a, ht, b, c, l⟩ | no
      · refine Or.inl ⟨t, by omega, ht, b, c, fun t' h1 h2 => ?_⟩
        by_cases e : t' = k
        · rw [e]; exact q
        · exact l t' (by omega) h2
      · refine Or.inr (fun t h1 h2 => ?_)
        by_cases e : t = k
        · rw [e]; exact q
        · exact no t (by omega) h2
    refine br_f (nI_pos (by omega)) ?_
    rw [nI_clamp (n := k) (by omega)]
    refine ⟨vp_in_nI (by omega) (by omega), br_c (fun a => ⟨vp_in_nI (by omega) (by omega), br_c (fun b => nm_e (skip (fun q => q.2 b))) (fun b => nm_e (kk (nI k) ⟨by omega, Or.inl ⟨k, Nat.le_refl _, by omega, ⟨a, b⟩, rfl, fun t' h1 h2 => absurd h1 (by omega)⟩⟩))⟩) (fun a => nm_e (skip (fun q => a q.1)))⟩
end FXT
end
section
section FYR
variable {kn te fl : Int32} {yk yl sz th fa ef : Nat → Int32} {go : Nat → Int64} {gu ye yd : Nat → Int32} {wa al yc : Nat → Int64} {tr fd ys : Nat → Int32} {tk ln an : Nat → Int32} {I0 : Nat → Prop} {Br : Nat → Prop}
theorem fg_Am {N : Nat} {st : Nat → Nat → Prop} {en k s : Nat} (f : ¬ fg_F N I0 st k s) : fg_A N I0 st Br en k s ↔ fg_A N I0 st Br en (k + 1) s := by
  constructor
  · intro ⟨j, hj, h⟩
    refine ⟨j, ?_, h⟩
    rcases Nat.lt_or_ge (j + k) en with z | z
    · omega
    · have := fg_wF h
      rw [show en - j = k by omega] at this
      exact absurd this f
  · intro ⟨j, hj, h⟩; exact ⟨j, by omega, h⟩
theorem fg_Ao {N : Nat} {st : Nat → Nat → Prop} {en k s : Nat} (f : fg_F N I0 st k s) : ¬ fg_A N I0 st Br en (k + 1) s := by
  intro ⟨j, hj, h⟩
  have := fg_Fu (fg_wF h) f
  omega
theorem fl_c0 (a : Nat → Int64) : ∀ t, t < 128 → fl_h (vp_updL (vp_updL a 0 0) 1 0) 0 t = false := by
  intro t ht
  unfold fl_h
  rw [Nat.zero_add]
  rcases (show t / 64 = 0 ∨ t / 64 = 1 by omega) with e | e
  · rw [e, pk_uLn (by omega), pk_uLs, fl_0]
  · rw [e, pk_uLs, fl_0]
theorem fy_ca {post : SY → Prop} (h : ∀ al', (∀ t, t < 128 → fl_h al' 0 t = false) → post (kn, te, fl, yk, yl, sz, th, fa, ef, go, gu, ye, yd, wa, al', yc, tr, fd, ys)) : wpY_clear__alive post (kn, te, fl, yk, yl, sz, th, fa, ef, go, gu, ye, yd, wa, al, yc, tr, fd, ys) :=
  nm_e (nm_e (h _ (fl_c0 al)))
theorem fy_cc {post : SY → Prop} (h : ∀ yc', (∀ t, t < 128 → fl_h yc' 0 t = false) → post (kn, te, fl, yk, yl, sz, th, fa, ef, go, gu, ye, yd, wa, al, yc', tr, fd, ys)) : wpY_clear__calm post (kn, te, fl, yk, yl, sz, th, fa, ef, go, gu, ye, yd, wa, al, yc, tr, fd, ys) :=
  nm_e (nm_e (h _ (fl_c0 yc)))
theorem fy_tr {post : SY → Prop} (hz : fc_Z sz) (Y : fy_S tk ln an yk yl th ef) (G : fy_G sz tk ln an go) (hD : fg_D (fc_N sz) I0 (fc_st sz tk ln an) yd) {d : Nat} (hd : d < 125) (hA : ∀ s, s < fc_N sz → (fl_h al 0 s = true ↔ fg_A (fc_N sz) I0 (fc_st sz tk ln an) Br d 0 s)) (hx : ∃ s, fg_F (fc_N sz) I0 (fc_st sz tk ln an) d s ∧ Br s)
    (hp : ∀ tr' T, fi_T (fc_N sz) I0 (fc_st sz tk ln an) Br d d tr' T → post (kn, te, fl, yk, yl, sz, th, fa, ef, go, gu, ye, yd, wa, al, yc, tr', fd, ys)) : ∃ n, wY_row_162 post (nI d) kn te fl n 0 yk yl sz th fa ef go gu ye yd wa al yc tr fd ys := by
  have hN := fc_N1 hz
  refine pk_loop (fun n i tr => wY_row_162 post (nI d) kn te fl n (nI i) yk yl sz th fa ef go gu ye yd wa al yc tr fd ys) (fun i tr => i = 0 ∨ ∃ m, i = m + 1 ∧ ∃ T, fi_T (fc_N sz) I0 (fc_st sz tk ln an) Br d m tr T) (d + 1) 0 tr (by omega) (Or.inl rfl) (fun n tr L => ?_) (fun n i tr hi L k => ?_)
  · rcases L with e | ⟨m, e, T, hT⟩
    · omega
    · obtain rfl : m = d := by omega
      exact pk_lt m (m + 1) (fun _ => hp tr T hT) (fun z => absurd z (by omega))
  · refine pk_lt d i (fun z => absurd z (by omega)) (fun _ => ?_)
    rcases L with rfl | ⟨m, rfl, T, hT⟩
    · have ex : ∃ t, fg_F (fc_N sz) I0 (fc_st sz tk ln an) 0 t ∧ fg_A (fc_N sz) I0 (fc_st sz tk ln an) Br d 0 t := by
        obtain ⟨s, hs⟩ := fg_wx hx d (Nat.le_refl _)
        have f := fg_wF hs
        rw [Nat.sub_self] at f
        exact ⟨s, f, d, by omega, hs⟩
      obtain ⟨t, ht, hl⟩ := pk_least _ ex
      have htN := fg_Flt ht.1
      refine pk_loop (fun n' i (_ : Unit) => wY_row_170 post (wY_row_162 post (nI d) kn te fl n) (nI d) 0 kn te fl yk yl sz th fa ef go gu ye yd wa al yc tr fd ys n' (nI i)) (fun i _ => True) t 0 () (by omega) trivial (fun n' _ _ => ?_) (fun n' i _ hi _ k2 => ?_)
      · refine ⟨vp_in_nI (by omega) (by omega), ?_⟩
        rw [nI_clamp (by omega)]
        have e0 : yd t = 0 := (fg_Dd (d := 0) (by omega) hD htN (by omega)).mpr ht.1
        refine br_t e0 (fy_h_alive (b := 0) (by omega) (by omega) (fun _ => br_f (by decide) (br_t (by decide) ⟨vp_in_nI (n := 0) (by omega) (by omega), nm_e (nm_r (nI_1 0) (k _ (Or.inr ⟨0, rfl, (fun _ => t), fi_T0 ⟨ht, hl⟩⟩)))⟩)) (fun q => ?_))
        rw [(hA t htN).mpr ht.2] at q; cases q
      · refine ⟨vp_in_nI (by omega) (by omega), ?_⟩
        rw [nI_clamp (by omega)]
        refine br_c (fun e => fy_h_alive (b := 0) (by omega) (by omega) (fun q => ?_) (fun q => br_t rfl (nm_r (nI_1 i) (k2 () trivial)))) (fun e => nm_r (nI_1 i) (k2 () trivial))
        exact absurd ⟨(fg_Dd (d := 0) (by omega) hD (by omega) (by omega)).mp e, (hA i (by omega)).mp q⟩ (hl i hi)
    · obtain ⟨t0, ht0, hq0⟩ := fi_nx (by omega) hT
      obtain ⟨t, ht, hl⟩ := pk_least (fun t => fg_F (fc_N sz) I0 (fc_st sz tk ln an) (m + 1) t ∧ fg_A (fc_N sz) I0 (fc_st sz tk ln an) Br d 0 t ∧ fc_st sz tk ln an (T m) t) ⟨t0, hq0⟩
      have htN := fg_Flt ht.1
      have hTm := hT.2 m (Nat.le_refl _)
      have hpm : nI (m + 1) - 1 = nI m := nI_pred m
      refine pk_loop (fun n' i (_ : Unit) => wY_row_170 post (wY_row_162 post (nI d) kn te fl n) (nI d) (nI (m + 1)) kn te fl yk yl sz th fa ef go gu ye yd wa al yc tr fd ys n' (nI i)) (fun i _ => True) t 0 () (by omega) trivial (fun n' _ _ => ?_) (fun n' i _ hi _ k2 => ?_)
      · refine ⟨vp_in_nI (by omega) (by omega), ?_⟩
        rw [nI_clamp (n := t) (by omega), nI_clamp (n := m + 1) (by omega), hpm, nI_clamp (n := m) (by omega), hTm.2]
        have e0 : yd t = nI (m + 1) := (fg_Dd (by omega) hD htN (by omega)).mpr ht.1
        refine br_t e0 (fy_h_alive (b := 0) (by omega) (by omega) (fun _ => br_f (by decide) (pk_le (m + 1) 0 (fun z => absurd z (by omega)) (fun _ => ⟨vp_in_nI (by omega) (by omega), fy_sp hz Y G hTm.1 htN (fun _ => br_f (by decide) ⟨vp_in_nI (by omega) (by omega), nm_e (nm_r (nI_1 (m + 1)) (k _ (Or.inr ⟨m + 1, rfl, _, fi_Ts hT ⟨ht, hl⟩⟩)))⟩) (fun q => absurd ht.2.2 q)⟩))) (fun q => ?_))
        rw [(hA t htN).mpr ht.2.1] at q; cases q
      · refine ⟨vp_in_nI (by omega) (by omega), ?_⟩
        rw [nI_clamp (n := i) (by omega), nI_clamp (n := m + 1) (by omega), hpm, nI_clamp (n := m) (by omega), hTm.2]
        refine br_c (fun e => fy_h_alive (b := 0) (by omega) (by omega) (fun q => br_f (by decide) (pk_le (m + 1) 0 (fun z => absurd z (by omega)) (fun _ => ⟨vp_in_nI (by omega) (by omega), fy_sp hz Y G hTm.1 (by omega) (fun w => ?_) (fun _ => br_t rfl (nm_r (nI_1 i) (k2 () trivial)))⟩))) (fun q => br_t rfl (nm_r (nI_1 i) (k2 () trivial)))) (fun e => nm_r (nI_1 i) (k2 () trivial))
        exact absurd ⟨(fg_Dd (by omega) hD (by omega) (by omega)).mp e, (hA i (by omega)).mp q, w⟩ (hl i hi)
theorem fy_rw {post : SY → Prop} (hz : fc_Z sz) (Y : fy_S tk ln an yk yl th ef) (G : fy_G sz tk ln an go) (hD : fg_D (fc_N sz) I0 (fc_st sz tk ln an) yd) (ok : fc_ok yk yl 0) {d : Nat} (hd : d < 125) (hBr : ∀ s, Br s ↔ fc_w sz yk yl 0 s = 0) (hx : ∃ s, fg_F (fc_N sz) I0 (fc_st sz tk ln an) d s ∧ Br s)
    (hp : ∀ ys' al' tr' T, fi_T (fc_N sz) I0 (fc_st sz tk ln an) Br d d tr' T → post (kn, nI d, fl, yk, yl, sz, th, fa, ef, go, gu, ye, yd, wa, al', yc, tr', fd, ys')) : wpY_row post (kn, te, fl, yk, yl, sz, th, fa, ef, go, gu, ye, yd, wa, al, yc, tr, fd, ys) (nI d) (nI (fc_N sz)) := by
  have hN := fc_N1 hz
  unfold wpY_row
  refine fy_ca (fun al' hal => ?_)
  have e1 : ∀ n, wY_row_10 post (nI d) (nI (fc_N sz)) n (nI (d + 1) + (-1)) kn te fl yk yl sz th fa ef go gu ye yd wa al' yc tr fd ys → wY_row_10 post (nI d) (nI (fc_N sz)) n (nI d) kn te fl yk yl sz th fa ef go gu ye yd wa al' yc tr fd ys := by
    intro n h; rw [pk_m1] at h; exact h
  refine ⟨d + 1 + 1, e1 _ (pk_loopD (fun n k (p : (Nat → Int32) × (Nat → Int64)) => wY_row_10 post (nI d) (nI (fc_N sz)) n (nI k + (-1)) kn te fl yk yl sz th fa ef go gu ye yd wa p.2 yc tr fd p.1) (fun k p => k ≤ d + 1 ∧ ∀ s, s < fc_N sz → (fl_h p.2 0 s = true ↔ fg_A (fc_N sz) I0 (fc_st sz tk ln an) Br d k s)) (fun n p J => ?_) (fun n k p J kk => ?_) (d + 1) (ys, al') ⟨Nat.le_refl _, fun s hs => ?_⟩)⟩
  · obtain ⟨ys, al⟩ := p
    exact br_t (by decide) (fy_tr hz Y G hD hd J.2 hx (fun tr' T hT => hp ys al tr' T hT))
  · obtain ⟨ys, al⟩ := p
    obtain ⟨J1, J2⟩ := J
    rw [pk_m1]
    refine br_f (nI_pos (by omega)) ?_
    refine pk_loop (fun n' i (p : (Nat → Int32) × (Nat → Int64)) => wY_row_17 post (wY_row_10 post (nI d) (nI (fc_N sz)) n) (nI d) (nI (fc_N sz)) (nI k) n' (nI i) kn te fl yk yl sz th fa ef go gu ye yd wa p.2 yc tr fd p.1) (fun i p => ∀ s, s < fc_N sz → (fl_h p.2 0 s = true ↔ ((s < i ∧ fg_A (fc_N sz) I0 (fc_st sz tk ln an) Br d k s) ∨ (i ≤ s ∧ fg_A (fc_N sz) I0 (fc_st sz tk ln an) Br d (k + 1) s)))) (fc_N sz) 0 (ys, al) (by omega) (fun s hs => ?_) (fun n' p L => ?_) (fun n' i p hi L k2 => ?_)
    · exact (J2 s hs).trans ⟨fun q => Or.inr ⟨by omega, q⟩, fun q => q.elim (fun w => absurd w.1 (by omega)) (fun w => w.2)⟩
    · obtain ⟨ys, al⟩ := p
      refine pk_le (fc_N sz) (fc_N sz) (fun _ => nm_e (kk (ys, al) ⟨by omega, fun s hs => ?_⟩)) (fun z => absurd z (by omega))
      exact (L s hs).trans ⟨fun q => q.elim (fun w => w.2) (fun w => absurd w.1 (by omega)), fun q => Or.inl ⟨hs, q⟩⟩
    · obtain ⟨ys, al⟩ := p
      have L : ∀ s, s < fc_N sz → (fl_h al 0 s = true ↔ ((s < i ∧ fg_A (fc_N sz) I0 (fc_st sz tk ln an) Br d k s) ∨ (i ≤ s ∧ fg_A (fc_N sz) I0 (fc_st sz tk ln an) Br d (k + 1) s))) := L
      have hF := fg_Dd (d := k) (s := i) (by omega) hD hi (by omega)
      refine pk_le (fc_N sz) i (fun z => absurd z (by omega)) (fun _ => ?_)
      rw [nI_clamp (by omega)]
      have stay : (fg_A (fc_N sz) I0 (fc_st sz tk ln an) Br d k i ↔ fg_A (fc_N sz) I0 (fc_st sz tk ln an) Br d (k + 1) i) → ∀ s, s < fc_N sz → (fl_h al 0 s = true ↔ ((s < i + 1 ∧ fg_A (fc_N sz) I0 (fc_st sz tk ln an) Br d k s) ∨ (i + 1 ≤ s ∧ fg_A (fc_N sz) I0 (fc_st sz tk ln an) Br d (k + 1) s))) := by
        intro h s hs
        by_cases e : s = i
        · subst e
          exact (L s hs).trans ⟨fun q => q.elim (fun w => absurd w.1 (by omega)) (fun w => Or.inl ⟨by omega, h.mpr w.2⟩), fun q => q.elim (fun w => Or.inr ⟨by omega, h.mp w.2⟩) (fun w => absurd w.1 (by omega))⟩
        · exact (L s hs).trans ⟨fun q => q.imp (fun w => ⟨by omega, w.2⟩) (fun w => ⟨by omega, w.2⟩), fun q => q.imp (fun w => ⟨by omega, w.2⟩) (fun w => ⟨by omega, w.2⟩)⟩
      refine ⟨vp_in_nI (by omega) (by omega), br_c (fun e => ?_) (fun e => nm_r (nI_1 i) (k2 (ys, al) (stay (fg_Am (fun w => e (hF.mpr w))))))⟩
      have f := hF.mp e
      have fin0 : ∀ ys, ¬ fg_A (fc_N sz) I0 (fc_st sz tk ln an) Br d k i → wY_row_127 post (wY_row_10 post (nI d) (nI (fc_N sz)) n) (wY_row_17 post (wY_row_10 post (nI d) (nI (fc_N sz)) n) (nI d) (nI (fc_N sz)) (nI k) n') (nI d) (nI (fc_N sz)) (nI k) (nI i) 0 kn te fl yk yl sz th fa ef go gu ye yd wa al yc tr fd ys := by
        intro ys h
        exact br_t rfl (nm_r (nI_1 i) (k2 (ys, al) (stay ⟨fun w => absurd w h, fun w => absurd w (fg_Ao f)⟩)))
      have fin1 : ∀ ys, fg_A (fc_N sz) I0 (fc_st sz tk ln an) Br d k i → wY_row_127 post (wY_row_10 post (nI d) (nI (fc_N sz)) n) (wY_row_17 post (wY_row_10 post (nI d) (nI (fc_N sz)) n) (nI d) (nI (fc_N sz)) (nI k) n') (nI d) (nI (fc_N sz)) (nI k) (nI i) 1 kn te fl yk yl sz th fa ef go gu ye yd wa al yc tr fd ys := by
        intro ys h
        refine br_f (by decide) (fy_p_alive (b := 0) (by omega) (by omega) (nm_r (nI_1 i) (k2 (ys, _) (fun s hs => ?_))))
        show fl_h (fl_put al 0 i) 0 s = true ↔ _
        rw [fl_hs al (by omega) (by omega) (by omega) (by omega), Bool.or_eq_true, decide_eq_true_iff, L s hs]
        by_cases q : s = i
        · subst q
          exact ⟨fun _ => Or.inl ⟨by omega, h⟩, fun _ => Or.inr ⟨rfl, rfl⟩⟩
        · exact ⟨fun w => w.elim (fun w => w.imp (fun w => ⟨by omega, w.2⟩) (fun w => ⟨by omega, w.2⟩)) (fun w => absurd w.2 q), fun w => Or.inl (w.imp (fun w => ⟨by omega, w.2⟩) (fun w => ⟨by omega, w.2⟩))⟩
      refine pk_eq k d (fun ek => ?_) (fun ek => ?_)
      · subst ek
        refine fy_wk (j := 0) hz (by omega) hi ok (fun ys' => br_c (fun b => ⟨1, ?_⟩) (fun b => ⟨1, ?_⟩))
        · exact pk_le (fc_N sz) 0 (fun z => absurd z (by omega)) (fun _ => pk_le k k (fun _ => fin1 ys' (fg_Ae.mpr ⟨f, (hBr i).mpr b⟩)) (fun z => absurd z (by omega)))
        · exact pk_le (fc_N sz) 0 (fun z => absurd z (by omega)) (fun _ => pk_le k k (fun _ => fin0 ys' (fun w => b ((hBr i).mp (fg_Ae.mp w).2))) (fun z => absurd z (by omega)))
      · have key : ∀ t, t < fc_N sz → fg_F (fc_N sz) I0 (fc_st sz tk ln an) (k + 1) t → (fl_h al 0 t = true ↔ fg_A (fc_N sz) I0 (fc_st sz tk ln an) Br d (k + 1) t) := by
          intro t ht ft
          have hnk : ¬ fg_F (fc_N sz) I0 (fc_st sz tk ln an) k t := fun w => by have := fg_Fu ft w; omega
          rw [L t ht]
          constructor
          · rintro (w | w)
            · exact (fg_Am hnk).mp w.2
            · exact w.2
          · intro w
            by_cases q : t < i
            · exact Or.inl ⟨q, (fg_Am hnk).mpr w⟩
            · exact Or.inr ⟨by omega, w⟩
        refine pk_loop (fun n'' t x => wY_row_62 post (wY_row_10 post (nI d) (nI (fc_N sz)) n) (wY_row_17 post (wY_row_10 post (nI d) (nI (fc_N sz)) n) (nI d) (nI (fc_N sz)) (nI k) n') (nI d) (nI (fc_N sz)) (nI k) (nI i) kn te fl yk yl sz th fa ef go gu ye yd wa al yc tr fd ys n'' x (nI t)) (fun t x => (x = 0 ∧ ∀ t', t' < t → ¬ (fg_F (fc_N sz) I0 (fc_st sz tk ln an) (k + 1) t' ∧ fg_A (fc_N sz) I0 (fc_st sz tk ln an) Br d (k + 1) t' ∧ fc_st sz tk ln an i t')) ∨ (x = 1 ∧ ∃ t', t' < t ∧ (fg_F (fc_N sz) I0 (fc_st sz tk ln an) (k + 1) t' ∧ fg_A (fc_N sz) I0 (fc_st sz tk ln an) Br d (k + 1) t' ∧ fc_st sz tk ln an i t'))) (fc_N sz) 0 0 (by omega) (Or.inl ⟨rfl, fun t' h => absurd h (by omega)⟩) (fun n'' x Q => ?_) (fun n'' t x ht Q k3 => ?_)
        · refine pk_le (fc_N sz) (fc_N sz) (fun _ => ?_) (fun z => absurd z (by omega))
          rcases Q with ⟨rfl, Q⟩ | ⟨rfl, t, ht, Q⟩
          · refine fin0 ys (fun w => ?_)
            obtain ⟨t, ht, q⟩ := (fg_Ak (by omega) f).mp w
            exact Q t ht q
          · exact fin1 ys ((fg_Ak (by omega) f).mpr ⟨t, ht, Q⟩)
        · have no : ¬ (fg_F (fc_N sz) I0 (fc_st sz tk ln an) (k + 1) t ∧ fg_A (fc_N sz) I0 (fc_st sz tk ln an) Br d (k + 1) t ∧ fc_st sz tk ln an i t) → wY_row_62 post (wY_row_10 post (nI d) (nI (fc_N sz)) n) (wY_row_17 post (wY_row_10 post (nI d) (nI (fc_N sz)) n) (nI d) (nI (fc_N sz)) (nI k) n') (nI d) (nI (fc_N sz)) (nI k) (nI i) kn te fl yk yl sz th fa ef go gu ye yd wa al yc tr fd ys n'' (x ||| 0) (nI (t + 1)) := by
            intro h
            refine k3 _ ?_
            rcases Q with ⟨rfl, Q⟩ | ⟨rfl, t', ht', Q⟩
            · refine Or.inl ⟨by decide, fun t' ht' => ?_⟩
              by_cases q : t' = t
              · rw [q]; exact h
              · exact Q t' (by omega)
            · exact Or.inr ⟨by decide, t', by omega, Q⟩
          refine pk_le (fc_N sz) t (fun z => absurd z (by omega)) (fun _ => pk_le d k (fun z => absurd z (by omega)) (fun _ => ?_))
          rw [nI_clamp (by omega), nI_1 k]
          have hFt := fg_Dd (d := k + 1) (s := t) (by omega) hD ht (by omega)
          refine ⟨vp_in_nI (by omega) (by omega), br_c (fun e2 => fy_h_alive (b := 0) (by omega) (by omega) (fun q => br_f (by decide) (fy_sp hz Y G hi ht (fun w => br_f (by decide) ?_) (fun w => br_t rfl (nm_e (nm_r (nI_1 t) (no (fun z => w z.2.2))))))) (fun q => br_t rfl (nm_e (nm_r (nI_1 t) (no (fun z => ?_)))))) (fun e2 => nm_e (nm_r (nI_1 t) (no (fun z => e2 (hFt.mpr z.1)))))⟩
          · have ft := hFt.mp e2
            refine nm_e (nm_r (nI_1 t) (k3 _ (Or.inr ⟨?_, t, by omega, ft, (key t ht ft).mp q, w⟩)))
            rcases Q with ⟨rfl, _⟩ | ⟨rfl, _⟩ <;> decide
          · rw [(key t ht z.1).mpr z.2.1] at q; cases q
  · show fl_h al' 0 s = true ↔ _
    rw [hal s (by omega)]
    exact ⟨fun z => absurd z (by decide), fun ⟨j, hj, _⟩ => absurd hj (by omega)⟩
end FYR
end
section
section FIV
variable {tl fc : Int32} {sz tk ln an fa sk lw hg mv en dp ca rc : Nat → Int32} {re : Nat → Int64} {ho ae ta ow ts fs : Nat → Int32} {kn te fl : Int32} {yk yl th ef : Nat → Int32} {go : Nat → Int64} {gu ye yd : Nat → Int32} {wa al yc : Nat → Int64} {tr fd ys : Nat → Int32}
theorem fi_bd {N : Nat} {I0 : Nat → Prop} {st : Nat → Nat → Prop} {dp : Nat → Int32} {br : Nat → Bool} {Br : Nat → Prop} (hN : N ≤ 125) (hD : fg_D N I0 st dp) (hb : ∀ s, br s = true ↔ Br s) (h : ¬ fi_b dp br N < 0) : ∃ d, d < 125 ∧ fi_b dp br N = nI d ∧ ∃ s, fg_F N I0 st d s ∧ Br s := by
  rcases fi_bx (dp := dp) (br := br) N with e | ⟨i, hi, a, b, e⟩
  · rw [e] at h; exact absurd fn_m1lt h
  · rcases hD i hi with ⟨d, hd, ed, f⟩ | ⟨ed, _⟩
    · exact ⟨d, by omega, e.trans ed, i, f, (hb i).mp b⟩
    · rw [ed] at a; exact absurd fn_m1lt a
theorem fy_iv {post : Int32 → SY → Prop} {b : Int32} (hz : fc_Z sz) (Y : fy_S tk ln an yk yl th ef) (G : fy_G sz tk ln an go) (hD : fc_Dp sz tk ln an yd) (ok : fc_ok yk yl 0) (hb : fi_b yd (fun s => decide (fc_w sz yk yl 0 s = 0)) (fc_N sz) = b)
    (h0 : b < 0 → ∀ ys', post b (kn, te, fl, yk, yl, sz, th, fa, ef, go, gu, ye, yd, wa, al, yc, tr, fd, ys'))
    (h1 : ∀ d, d < 125 → b = nI d → ∀ ys' al' tr' T, fi_T (fc_N sz) (fc_i sz tk ln) (fc_st sz tk ln an) (fun s => fc_w sz yk yl 0 s = 0) d d tr' T → post b (kn, nI d, fl, yk, yl, sz, th, fa, ef, go, gu, ye, yd, wa, al', yc, tr', fd, ys')) : ∃ n, wY_invariant_24 post (nI (fc_N sz)) n (-1) 0 kn te fl yk yl sz th fa ef go gu ye yd wa al yc tr fd ys := by
  have hN := fc_N1 hz
  refine pk_loop (fun n i (p : Int32 × (Nat → Int32)) => wY_invariant_24 post (nI (fc_N sz)) n p.1 (nI i) kn te fl yk yl sz th fa ef go gu ye yd wa al yc tr fd p.2) (fun i p => p.1 = fi_b yd (fun s => decide (fc_w sz yk yl 0 s = 0)) i) (fc_N sz) 0 (-1, ys) (by omega) rfl (fun n p I => ?_) (fun n i p hi I k => ?_)
  · obtain ⟨x, ys⟩ := p
    have I : x = fi_b yd (fun s => decide (fc_w sz yk yl 0 s = 0)) (fc_N sz) := I
    rw [hb] at I
    subst I
    refine pk_le (fc_N sz) (fc_N sz) (fun _ => br_c (fun z => h0 z ys) (fun z => ?_)) (fun z => absurd z (by omega))
    have z2 : ¬ x < 0 := z
    rw [← hb] at z2
    obtain ⟨d, hd, e, hx⟩ := fi_bd (Br := fun s => fc_w sz yk yl 0 s = 0) (by omega) hD (fun s => decide_eq_true_iff) z2
    rw [hb] at e
    have h1 := h1 d hd e
    show wpY_row (fun u => post x u) (kn, te, fl, yk, yl, sz, th, fa, ef, go, gu, ye, yd, wa, al, yc, tr, fd, ys) x (nI (fc_N sz))
    rw [e] at h1 ⊢
    exact fy_rw hz Y G hD ok hd (fun s => Iff.rfl) hx (fun ys' al' tr' T hT => h1 ys' al' tr' T hT)
  · obtain ⟨x, ys⟩ := p
    have I : x = fi_b yd (fun s => decide (fc_w sz yk yl 0 s = 0)) i := I
    have k : ∀ ys' y, y = (if yd i < 0 then x else if decide (fc_w sz yk yl 0 i = 0) = true then (if x < 0 then yd i else if x ≤ yd i then x else yd i) else x) → wY_invariant_24 post (nI (fc_N sz)) n y (nI (i + 1)) kn te fl yk yl sz th fa ef go gu ye yd wa al yc tr fd ys' := by
      intro ys' y ey
      refine k (y, ys') ?_
      show y = _
      rw [ey, I]; rfl
    refine pk_le (fc_N sz) i (fun z => absurd z (by omega)) (fun _ => ?_)
    rw [nI_clamp (by omega)]
    refine ⟨vp_in_nI (by omega) (by omega), br_c (fun d => nm_r (nI_1 i) (k ys _ (by rw [if_pos d]))) (fun d => ?_)⟩
    refine fy_wk (j := 0) hz (by omega) hi ok (fun ys' => br_c (fun e => br_c (fun c => ⟨vp_in_nI (by omega) (by omega), nm_e (nm_r (nI_1 i) (k ys' _ ?_))⟩) (fun c => ⟨vp_in_nI (by omega) (by omega), br_c (fun f => nm_r (nI_1 i) (k ys' _ ?_)) (fun f => ⟨vp_in_nI (by omega) (by omega), nm_e (nm_r (nI_1 i) (k ys' _ ?_))⟩)⟩)) (fun e => nm_r (nI_1 i) (k ys' _ ?_)))
    · rw [if_neg d, decide_eq_true e, if_pos rfl, if_pos c]
    · rw [if_neg d, decide_eq_true e, if_pos rfl, if_neg c, if_pos f]
    · rw [if_neg d, decide_eq_true e, if_pos rfl, if_neg c, if_neg f]
    · rw [if_neg d, decide_eq_false e]; rfl
theorem i_vc_invariant {k : Nat} {u : SX} {v : SY} (I : i_Rel k u v) (hk : k + 4 ≤ 2048) : wpX_invariant (fun r u' => wpY_invariant (fun r' v' => r' = r ∧ i_Rel (k + 4) u' v') v) u := by
  obtain ⟨tl, fc, sz, tk, ln, an, fa, sk, lw, hg, mv, en, dp, ca, rc, re, ho, ae, ta, ow, ts, fs⟩ := u
  obtain ⟨kn, te, fl, yk, yl, vs, th, yf, ef, go, gu, ye, yd, wa, al, yc, tr, fd, ys⟩ := v
  have I : i_Rel (k + 4) (tl, fc, sz, tk, ln, an, fa, sk, lw, hg, mv, en, dp, ca, rc, re, ho, ae, ta, ow, ts, fs) (kn, te, fl, yk, yl, vs, th, yf, ef, go, gu, ye, yd, wa, al, yc, tr, fd, ys) := I
  obtain ⟨rfl, rfl, S, Y, Fa, K, T, F⟩ := id I
  have hz := S.1
  have hN := fc_N1 hz
  have sm0 := Y.1 0 (by omega)
  have hy := fc_sm_sh sm0 S.2.1
  unfold wpX_invariant
  refine fx_di S.2.1 (fun hf => br_f (by decide) ?_) (fun hf => br_t rfl ?_)
  · have ok : fc_ok tk ln 0 := ⟨S.2.1, hf⟩
    have oky : fc_ok yk yl 0 := fc_sm_ok sm0 ok
    have ew : (fun s => decide (fc_w sz yk yl 0 s = 0)) = (fun s => decide (fc_w sz tk ln 0 s = 0)) := by
      funext s; rw [fc_sm_w sm0]
    have ew2 : (fun s => fc_w sz yk yl 0 s = 0) = (fun s => fc_w sz tk ln 0 s = 0) := by
      funext s; rw [fc_sm_w sm0]
    refine fx_ex S (fun sk' lw' hg' mv' en' dp' XX => ?_)
    have hmv : ∀ s t, s < fc_N sz → t < fc_N sz → s ≠ t → (mv' (s * 125 + t) = 0 ↔ ¬ fc_st sz tk ln an s t) := fun s t hs ht e => fx_mz (XX.1 s hs).1 ht e
    have hD : fg_D (fc_N sz) (fc_i sz tk ln) (fc_st sz tk ln an) dp' := XX.2
    refine fx_lb hz ok (fun sk2 => ?_)
    have hbY : ∀ yd', fc_Dp sz tk ln an yd' → fi_b yd' (fun s => decide (fc_w sz yk yl 0 s = 0)) (fc_N sz) = fi_b dp' (fun s => decide (fc_w sz tk ln 0 s = 0)) (fc_N sz) := by
      intro yd' h
      rw [ew]
      exact fi_bc _ (fun i hi => fg_Du h hD hi)
    have hbX := fi_bd (br := fun s => decide (fc_w sz tk ln 0 s = 0)) (Br := fun s => fc_w sz tk ln 0 s = 0) (by omega) hD (fun s => decide_eq_true_iff)
    generalize fi_b dp' (fun s => decide (fc_w sz tk ln 0 s = 0)) (fc_N sz) = b at *
    refine br_c (fun z => ?_) (fun z => ?_)
    · unfold wpY_invariant
      refine fy_ie hy (fun _ => br_f (by decide) (fy_kn S Y K (fun go' gu' ye' yd' ys' KK => fy_ns hz ?_))) (fun q => absurd ((fs_exq sm0).mpr hf) q)
      refine fy_iv hz Y KK.1 KK.2.2 oky (hbY yd' KK.2.2) (fun _ ys2 => ⟨rfl, rfl, rfl, S, Y, Fa, Or.inr ⟨rfl, KK⟩, T, F⟩) (fun d hd e => ?_)
      rw [e] at z; exact absurd z (nI_pos (by omega))
    · obtain ⟨d, hd, rfl, hx⟩ := hbX z
      refine fx_mw hz ok hD hmv hd (fun s => Iff.rfl) (fun sk3 ow' ho => ?_)
      refine fx_kt hz hD hmv hd ho hx (fun ts' TX hT => ?_)
      unfold wpY_invariant
      refine fy_ie hy (fun _ => br_f (by decide) (fy_kn S Y K (fun go' gu' ye' yd' ys' KK => fy_ns hz ?_))) (fun q => absurd ((fs_exq sm0).mpr hf) q)
      refine fy_iv hz Y KK.1 KK.2.2 oky (hbY yd' KK.2.2) (fun w => absurd w z) (fun d2 hd2 e ys2 al2 tr2 TY hTY => ?_)
      rw [nI_eq (by omega) (by omega)] at e
      subst e
      rw [ew2] at hTY
      refine ⟨rfl, rfl, rfl, S, Y, Fa, Or.inr ⟨rfl, KK⟩, ⟨d + 1, by omega, rfl, (pk_m1 d).symm, fun j hj => ?_⟩, F⟩
      rw [(hT.2 j (by omega)).2, (hTY.2 j (by omega)).2, fg_tu hT.1 hTY.1 j (by omega)]
  · unfold wpY_invariant
    exact fy_ie hy (fun q => absurd ((fs_exq sm0).mp q) hf) (fun _ => br_t rfl ⟨rfl, I⟩)
end FIV
end
section
section FXC
variable {tl fc : Int32} {sz tk ln an fa sk lw hg mv en dp ca rc : Nat → Int32} {re : Nat → Int64} {ho ae ta ow ts fs : Nat → Int32} {st : Nat → Nat → Prop} {A : Nat → Prop}
def fl_ro (a : Nat → Int64) (b c : Nat) : Nat → Int64 := vp_updL (vp_updL a b (a b ||| a c)) (b + 1) (vp_updL a b (a b ||| a c) (b + 1) ||| vp_updL a b (a b ||| a c) (c + 1))
theorem fl_rb (a : Nat → Int64) {b c b' t : Nat} (hb : b % 2 = 0) (hc : c % 2 = 0) (hb' : b' % 2 = 0) (ht : t < 128) : fl_h (fl_ro a b c) b' t = if b' = b then (fl_h a b t || fl_h a c t) else fl_h a b' t := by
  unfold fl_h fl_ro
  by_cases e : b' = b
  · rw [if_pos e, e]
    rcases (show t / 64 = 0 ∨ t / 64 = 1 by omega) with q | q
    · rw [show b + t / 64 = b by omega, show c + t / 64 = c by omega, pk_uLn (by omega), pk_uLs, fl_or]
    · rw [q, pk_uLs, pk_uLn (by omega), pk_uLn (by omega), fl_or]
  · rw [if_neg e, pk_uLn (by omega), pk_uLn (by omega)]
theorem fw_mm {N m t : Nat} : fw_W N st A (m + 1) m t ↔ fw_W N st A m m t := ⟨fun h => h.elim id (fun q => q.2), fun h => Or.inl h⟩
theorem fl_d0 (a : Nat → Int64) {b b' t : Nat} (hb : b % 2 = 0) (hb' : b' % 2 = 0) (ht : t < 128) : fl_h (vp_updL (vp_updL a b 0) (b + 1) 0) b' t = if b' = b then false else fl_h a b' t := by
  unfold fl_h
  by_cases e : b' = b
  · rw [if_pos e, e]
    rcases (show t / 64 = 0 ∨ t / 64 = 1 by omega) with q | q
    · rw [show b + t / 64 = b by omega, pk_uLn (by omega), pk_uLs, fl_0]
    · rw [q, pk_uLs, fl_0]
  · rw [if_neg e, pk_uLn (by omega), pk_uLn (by omega)]
theorem fx_re {post : Int32 → Prop} {s t : Nat} (hs : s < 125) (ht : t < 128) (h1 : fl_h re (s * 2) t = true → post 1) (h0 : fl_h re (s * 2) t = false → post 0) : wpX_reaches post (tl, fc, sz, tk, ln, an, fa, sk, lw, hg, mv, en, dp, ca, rc, re, ho, ae, ta, ow, ts, fs) (nI s) (nI t) := by
  unfold wpX_reaches
  dsimp only
  rw [show nI s * 2 = nI (s * 2) from by rw [← pk_mul]; rfl, fl_i (by omega), fl_r (by omega), nI_clamp (by omega)]
  refine ⟨fl_64, vp_in_nI (by omega) (by omega), fl_64, br_c (fun z => h1 ?_) (fun z => h0 ?_)⟩
  · exact (fl_ur _ (by omega)).mp z
  · cases q : fl_h re (s * 2) t
    · rfl
    · exact absurd ((fl_ur _ (by omega)).mpr q) z
theorem fx_c_recurring {post : SX → Prop} (hz : fc_Z sz) (hm : ∀ s t, s < fc_N sz → t < fc_N sz → s ≠ t → (mv (s * 125 + t) = 0 ↔ ¬ st s t)) (hA : fi_ow rc (fc_N sz) A)
    (hp : ∀ re', (∀ s t, s < fc_N sz → t < fc_N sz → (fl_h re' (s * 2) t = true ↔ fw_W (fc_N sz) st A (fc_N sz) s t)) → post (tl, fc, sz, tk, ln, an, fa, sk, lw, hg, mv, en, dp, ca, rc, re', ho, ae, ta, ow, ts, fs)) : wpX_closeSteps__recurring post (tl, fc, sz, tk, ln, an, fa, sk, lw, hg, mv, en, dp, ca, rc, re, ho, ae, ta, ow, ts, fs) := by
  have hN := fc_N1 hz
  unfold wpX_closeSteps__recurring
  refine fx_ns hz ?_
  refine pk_loop (fun n i re => wX_closeSteps__recurring_7 post (nI (fc_N sz)) tl fc n (nI i) sz tk ln an fa sk lw hg mv en dp ca rc re ho ae ta ow ts fs) (fun i re => ∀ s t, s < i → t < fc_N sz → (fl_h re (s * 2) t = true ↔ fw_W (fc_N sz) st A 0 s t)) (fc_N sz) 0 re (by omega) (fun s t hs => absurd hs (by omega)) (fun n re I => ?_) (fun n i re hi I k => ?_)
  · refine pk_le (fc_N sz) (fc_N sz) (fun _ => ?_) (fun z => absurd z (by omega))
    refine pk_loop (fun n m re => wX_closeSteps__recurring_125 post (nI (fc_N sz)) tl fc n (nI m) sz tk ln an fa sk lw hg mv en dp ca rc re ho ae ta ow ts fs) (fun m re => ∀ s t, s < fc_N sz → t < fc_N sz → (fl_h re (s * 2) t = true ↔ fw_W (fc_N sz) st A m s t)) (fc_N sz) 0 re (by omega) I (fun n re J => ?_) (fun n m re hmN J k => ?_)
    · exact pk_le (fc_N sz) (fc_N sz) (fun _ => hp re J) (fun z => absurd z (by omega))
    · refine pk_le (fc_N sz) m (fun z => absurd z (by omega)) (fun _ => ?_)
      refine pk_loop (fun n' i re => wX_closeSteps__recurring_133 post (wX_closeSteps__recurring_125 post (nI (fc_N sz)) tl fc n) (nI (fc_N sz)) (nI m) tl fc n' (nI i) sz tk ln an fa sk lw hg mv en dp ca rc re ho ae ta ow ts fs) (fun i re => ∀ s t, s < fc_N sz → t < fc_N sz → (fl_h re (s * 2) t = true ↔ ((s < i ∧ fw_W (fc_N sz) st A (m + 1) s t) ∨ (i ≤ s ∧ fw_W (fc_N sz) st A m s t)))) (fc_N sz) 0 re (by omega) (fun s t hs ht => ?_) (fun n' re L => ?_) (fun n' i re hi L k2 => ?_)
      · exact (J s t hs ht).trans ⟨fun q => Or.inr ⟨by omega, q⟩, fun q => q.elim (fun w => absurd w.1 (by omega)) (fun w => w.2)⟩
      · refine pk_le (fc_N sz) (fc_N sz) (fun _ => nm_r (nI_1 m) (k re (fun s t hs ht => ?_))) (fun z => absurd z (by omega))
        exact (L s t hs ht).trans ⟨fun q => q.elim (fun w => w.2) (fun w => absurd w.1 (by omega)), fun q => Or.inl ⟨hs, q⟩⟩
      · refine pk_le (fc_N sz) i (fun z => absurd z (by omega)) (fun _ => ?_)
        have rm : ∀ t, t < fc_N sz → (fl_h re (m * 2) t = true ↔ fw_W (fc_N sz) st A m m t) := by
          intro t ht
          rw [L m t hmN ht]
          exact ⟨fun q => q.elim (fun w => fw_mm.mp w.2) (fun w => w.2), fun q => if h : m < i then Or.inl ⟨h, fw_mm.mpr q⟩ else Or.inr ⟨by omega, q⟩⟩
        have ri : ∀ t, t < fc_N sz → (fl_h re (i * 2) t = true ↔ fw_W (fc_N sz) st A m i t) := by
          intro t ht
          rw [L i t hi ht]
          exact ⟨fun q => q.elim (fun w => absurd w.1 (by omega)) (fun w => w.2), fun q => Or.inr ⟨by omega, q⟩⟩
        have up : ∀ re', (∀ t, t < fc_N sz → (fl_h re' (i * 2) t = true ↔ fw_W (fc_N sz) st A (m + 1) i t)) → (∀ s t, s < fc_N sz → s ≠ i → t < fc_N sz → fl_h re' (s * 2) t = fl_h re (s * 2) t) → ∀ s t, s < fc_N sz → t < fc_N sz → (fl_h re' (s * 2) t = true ↔ ((s < i + 1 ∧ fw_W (fc_N sz) st A (m + 1) s t) ∨ (i + 1 ≤ s ∧ fw_W (fc_N sz) st A m s t))) := by
          intro re' h1 h2 s t hs ht
          by_cases e : s = i
          · subst e
            exact (h1 t ht).trans ⟨fun q => Or.inl ⟨by omega, q⟩, fun q => q.elim (fun w => w.2) (fun w => absurd w.1 (by omega))⟩
          · rw [h2 s t hs e ht]
            exact (L s t hs ht).trans ⟨fun q => q.imp (fun w => ⟨by omega, w.2⟩) (fun w => ⟨by omega, w.2⟩), fun q => q.imp (fun w => ⟨by omega, w.2⟩) (fun w => ⟨by omega, w.2⟩)⟩
        refine fx_re (by omega) (by omega) (fun q => br_f (by decide) ?_) (fun q => br_t rfl (nm_r (nI_1 i) (k2 re (up re (fun t ht => ?_) (fun _ _ _ _ _ => rfl)))))
        · have e1 : nI i * 2 = nI (i * 2) := by rw [← pk_mul]; rfl
          have e2 : nI m * 2 = nI (m * 2) := by rw [← pk_mul]; rfl
          have e3 : nI i * 2 + 1 = nI (i * 2 + 1) := by rw [e1]; exact nI_1 _
          have e4 : nI m * 2 + 1 = nI (m * 2 + 1) := by rw [e2]; exact nI_1 _
          rw [e3, e4, e1, e2, nI_clamp (by omega), nI_clamp (by omega), nI_clamp (by omega), nI_clamp (by omega)]
          refine ⟨vp_in_nI (by omega) (by omega), vp_in_nI (by omega) (by omega), vp_in_nI (by omega) (by omega), nm_e ⟨vp_in_nI (by omega) (by omega), vp_in_nI (by omega) (by omega), vp_in_nI (by omega) (by omega), nm_e (nm_r (nI_1 i) (k2 (fl_ro re (i * 2) (m * 2)) (up _ (fun t ht => ?_) (fun s t hs e ht => ?_))))⟩⟩
          · rw [fl_rb re (by omega) (by omega) (by omega) (by omega), if_pos rfl, Bool.or_eq_true, ri t ht, rm t ht]
            exact ⟨fun w => w.imp id (fun w => ⟨(ri m hmN).mp q, w⟩), fun w => w.imp id (fun w => w.2)⟩
          · rw [fl_rb re (by omega) (by omega) (by omega) (by omega), if_neg (by omega)]
        · rw [ri t ht]
          refine ⟨fun w => Or.inl w, fun w => w.elim id (fun w => ?_)⟩
          rw [(ri m hmN).mpr w.1] at q; cases q
  · refine pk_le (fc_N sz) i (fun z => absurd z (by omega)) (fun _ => ?_)
    have e1 : nI i * 2 = nI (i * 2) := by rw [← pk_mul]; rfl
    have e3 : nI i * 2 + 1 = nI (i * 2 + 1) := by rw [e1]; exact nI_1 _
    rw [e3, e1, nI_clamp (by omega), nI_clamp (by omega)]
    refine ⟨vp_in_nI (by omega) (by omega), nm_e ⟨vp_in_nI (by omega) (by omega), nm_e ?_⟩⟩
    refine pk_loop (fun n' t re => wX_closeSteps__recurring_35 post (wX_closeSteps__recurring_7 post (nI (fc_N sz)) tl fc n) (nI (fc_N sz)) (nI i) tl fc n' (nI t) sz tk ln an fa sk lw hg mv en dp ca rc re ho ae ta ow ts fs) (fun t re => (∀ s t, s < i → t < fc_N sz → (fl_h re (s * 2) t = true ↔ fw_W (fc_N sz) st A 0 s t)) ∧ ∀ t', t' < 128 → (fl_h re (i * 2) t' = true ↔ (t' < t ∧ fw_W (fc_N sz) st A 0 i t'))) (fc_N sz) 0 _ (by omega) ⟨fun s t hs ht => ?_, fun t' ht' => ?_⟩ (fun n' re J => ?_) (fun n' t re ht J k2 => ?_)
    · rw [fl_d0 re (by omega) (by omega) (by omega), if_neg (by omega)]; exact I s t hs ht
    · rw [fl_d0 re (by omega) (by omega) (by omega), if_pos rfl]
      exact ⟨fun z => absurd z (by decide), fun z => absurd z.1 (by omega)⟩
    · refine pk_le (fc_N sz) (fc_N sz) (fun _ => nm_r (nI_1 i) (k re (fun s t hs ht => ?_))) (fun z => absurd z (by omega))
      by_cases e : s = i
      · subst e
        exact (J.2 t (by omega)).trans ⟨fun q => q.2, fun q => ⟨ht, q⟩⟩
      · exact J.1 s t (by omega) ht
    · obtain ⟨J1, J2⟩ := J
      refine pk_le (fc_N sz) t (fun z => absurd z (by omega)) (fun _ => ?_)
      have skip : ¬ fw_W (fc_N sz) st A 0 i t → wX_closeSteps__recurring_35 post (wX_closeSteps__recurring_7 post (nI (fc_N sz)) tl fc n) (nI (fc_N sz)) (nI i) tl fc n' (nI (t + 1)) sz tk ln an fa sk lw hg mv en dp ca rc re ho ae ta ow ts fs := by
        intro q
        refine k2 re ⟨J1, fun t' ht' => ?_⟩
        by_cases e : t' = t
        · subst e
          exact (J2 t' ht').trans ⟨fun w => absurd w.1 (by omega), fun w => absurd w.2 q⟩
        · exact (J2 t' ht').trans ⟨fun w => ⟨by omega, w.2⟩, fun w => ⟨by omega, w.2⟩⟩
      have t0 : ¬ fw_W (fc_N sz) st A 0 i t → wX_closeSteps__recurring_67 post (wX_closeSteps__recurring_7 post (nI (fc_N sz)) tl fc n) (wX_closeSteps__recurring_35 post (wX_closeSteps__recurring_7 post (nI (fc_N sz)) tl fc n) (nI (fc_N sz)) (nI i) tl fc n') (nI (fc_N sz)) (nI i) (nI t) 0 tl fc sz tk ln an fa sk lw hg mv en dp ca rc re ho ae ta ow ts fs := fun q => br_t rfl (nm_r (nI_1 t) (skip q))
      have t1 : (i = t ∨ st i t) → wX_closeSteps__recurring_62 post (wX_closeSteps__recurring_7 post (nI (fc_N sz)) tl fc n) (wX_closeSteps__recurring_35 post (wX_closeSteps__recurring_7 post (nI (fc_N sz)) tl fc n) (nI (fc_N sz)) (nI i) tl fc n') (nI (fc_N sz)) (nI i) (nI t) tl fc sz tk ln an fa sk lw hg mv en dp ca rc re ho ae ta ow ts fs := by
        intro q
        refine br_f (by decide) ?_
        rw [nI_clamp (n := i) (by omega), nI_clamp (n := t) (by omega), e1, fl_i (by omega), fl_r (by omega), nI_clamp (by omega)]
        refine ⟨vp_in_nI (by omega) (by omega), br_c (fun a => nm_r (nI_1 t) (skip (fun w => (fi_on hA hi).mp a w.2.2.1))) (fun a => ⟨vp_in_nI (by omega) (by omega), br_c (fun b => nm_r (nI_1 t) (skip (fun w => (fi_on hA ht).mp b w.2.2.2.1))) (fun b => ?_)⟩)⟩
        have w : fw_W (fc_N sz) st A 0 i t := ⟨hi, ht, Classical.byContradiction (fun w => a ((fi_on hA hi).mpr w)), Classical.byContradiction (fun w => b ((fi_on hA ht).mpr w)), q⟩
        refine ⟨fl_64, vp_in_nI (by omega) (by omega), fl_64, vp_in_nI (by omega) (by omega), nm_e (nm_r (nI_1 t) (k2 (fl_put re (i * 2) t) ⟨fun s t' hs ht' => ?_, fun t' ht' => ?_⟩))⟩
        · rw [fl_hs re (by omega) (by omega) (by omega) (by omega), decide_eq_false (by omega), Bool.or_false]; exact J1 s t' hs ht'
        · rw [fl_hs re (by omega) (by omega) (by omega) (by omega), Bool.or_eq_true, decide_eq_true_iff, J2 t' ht']
          by_cases e : t' = t
          · subst e
            exact ⟨fun _ => ⟨by omega, w⟩, fun _ => Or.inr ⟨rfl, rfl⟩⟩
          · exact ⟨fun z => z.elim (fun z => ⟨by omega, z.2⟩) (fun z => absurd z.2 e), fun z => Or.inl ⟨by omega, z.2⟩⟩
      have hx : nI i * 125 + nI t = nI (i * 125 + t) := by rw [← nI_add, ← pk_mul]; rfl
      rw [hx, nI_clamp (by omega)]
      refine pk_eq i t (fun e => t1 (Or.inl e)) (fun e => ⟨vp_in_nI (by omega) (by omega), br_c (fun q => t0 (fun w => ?_)) (fun q => t1 (Or.inr (Classical.byContradiction (fun w => q ((hm i t hi ht e).mpr w)))))⟩)
      exact w.2.2.2.2.elim e ((hm i t hi ht e).mp q)
theorem fx_c_calm {post : SX → Prop} (hz : fc_Z sz) (hm : ∀ s t, s < fc_N sz → t < fc_N sz → s ≠ t → (mv (s * 125 + t) = 0 ↔ ¬ st s t)) (hA : fi_ow ca (fc_N sz) A)
    (hp : ∀ re', (∀ s t, s < fc_N sz → t < fc_N sz → (fl_h re' (s * 2) t = true ↔ fw_W (fc_N sz) st A (fc_N sz) s t)) → post (tl, fc, sz, tk, ln, an, fa, sk, lw, hg, mv, en, dp, ca, rc, re', ho, ae, ta, ow, ts, fs)) : wpX_closeSteps__calm post (tl, fc, sz, tk, ln, an, fa, sk, lw, hg, mv, en, dp, ca, rc, re, ho, ae, ta, ow, ts, fs) := by
  have hN := fc_N1 hz
  unfold wpX_closeSteps__calm
  refine fx_ns hz ?_
  refine pk_loop (fun n i re => wX_closeSteps__calm_7 post (nI (fc_N sz)) tl fc n (nI i) sz tk ln an fa sk lw hg mv en dp ca rc re ho ae ta ow ts fs) (fun i re => ∀ s t, s < i → t < fc_N sz → (fl_h re (s * 2) t = true ↔ fw_W (fc_N sz) st A 0 s t)) (fc_N sz) 0 re (by omega) (fun s t hs => absurd hs (by omega)) (fun n re I => ?_) (fun n i re hi I k => ?_)
  · refine pk_le (fc_N sz) (fc_N sz) (fun _ => ?_) (fun z => absurd z (by omega))
    refine pk_loop (fun n m re => wX_closeSteps__calm_125 post (nI (fc_N sz)) tl fc n (nI m) sz tk ln an fa sk lw hg mv en dp ca rc re ho ae ta ow ts fs) (fun m re => ∀ s t, s < fc_N sz → t < fc_N sz → (fl_h re (s * 2) t = true ↔ fw_W (fc_N sz) st A m s t)) (fc_N sz) 0 re (by omega) I (fun n re J => ?_) (fun n m re hmN J k => ?_)
    · exact pk_le (fc_N sz) (fc_N sz) (fun _ => hp re J) (fun z => absurd z (by omega))
    · refine pk_le (fc_N sz) m (fun z => absurd z (by omega)) (fun _ => ?_)
      refine pk_loop (fun n' i re => wX_closeSteps__calm_133 post (wX_closeSteps__calm_125 post (nI (fc_N sz)) tl fc n) (nI (fc_N sz)) (nI m) tl fc n' (nI i) sz tk ln an fa sk lw hg mv en dp ca rc re ho ae ta ow ts fs) (fun i re => ∀ s t, s < fc_N sz → t < fc_N sz → (fl_h re (s * 2) t = true ↔ ((s < i ∧ fw_W (fc_N sz) st A (m + 1) s t) ∨ (i ≤ s ∧ fw_W (fc_N sz) st A m s t)))) (fc_N sz) 0 re (by omega) (fun s t hs ht => ?_) (fun n' re L => ?_) (fun n' i re hi L k2 => ?_)
      · exact (J s t hs ht).trans ⟨fun q => Or.inr ⟨by omega, q⟩, fun q => q.elim (fun w => absurd w.1 (by omega)) (fun w => w.2)⟩
      · refine pk_le (fc_N sz) (fc_N sz) (fun _ => nm_r (nI_1 m) (k re (fun s t hs ht => ?_))) (fun z => absurd z (by omega))
        exact (L s t hs ht).trans ⟨fun q => q.elim (fun w => w.2) (fun w => absurd w.1 (by omega)), fun q => Or.inl ⟨hs, q⟩⟩
      · refine pk_le (fc_N sz) i (fun z => absurd z (by omega)) (fun _ => ?_)
        have rm : ∀ t, t < fc_N sz → (fl_h re (m * 2) t = true ↔ fw_W (fc_N sz) st A m m t) := by
          intro t ht
          rw [L m t hmN ht]
          exact ⟨fun q => q.elim (fun w => fw_mm.mp w.2) (fun w => w.2), fun q => if h : m < i then Or.inl ⟨h, fw_mm.mpr q⟩ else Or.inr ⟨by omega, q⟩⟩
        have ri : ∀ t, t < fc_N sz → (fl_h re (i * 2) t = true ↔ fw_W (fc_N sz) st A m i t) := by
          intro t ht
          rw [L i t hi ht]
          exact ⟨fun q => q.elim (fun w => absurd w.1 (by omega)) (fun w => w.2), fun q => Or.inr ⟨by omega, q⟩⟩
        have up : ∀ re', (∀ t, t < fc_N sz → (fl_h re' (i * 2) t = true ↔ fw_W (fc_N sz) st A (m + 1) i t)) → (∀ s t, s < fc_N sz → s ≠ i → t < fc_N sz → fl_h re' (s * 2) t = fl_h re (s * 2) t) → ∀ s t, s < fc_N sz → t < fc_N sz → (fl_h re' (s * 2) t = true ↔ ((s < i + 1 ∧ fw_W (fc_N sz) st A (m + 1) s t) ∨ (i + 1 ≤ s ∧ fw_W (fc_N sz) st A m s t))) := by
          intro re' h1 h2 s t hs ht
          by_cases e : s = i
          · subst e
            exact (h1 t ht).trans ⟨fun q => Or.inl ⟨by omega, q⟩, fun q => q.elim (fun w => w.2) (fun w => absurd w.1 (by omega))⟩
          · rw [h2 s t hs e ht]
            exact (L s t hs ht).trans ⟨fun q => q.imp (fun w => ⟨by omega, w.2⟩) (fun w => ⟨by omega, w.2⟩), fun q => q.imp (fun w => ⟨by omega, w.2⟩) (fun w => ⟨by omega, w.2⟩)⟩
        refine fx_re (by omega) (by omega) (fun q => br_f (by decide) ?_) (fun q => br_t rfl (nm_r (nI_1 i) (k2 re (up re (fun t ht => ?_) (fun _ _ _ _ _ => rfl)))))
        · have e1 : nI i * 2 = nI (i * 2) := by rw [← pk_mul]; rfl
          have e2 : nI m * 2 = nI (m * 2) := by rw [← pk_mul]; rfl
          have e3 : nI i * 2 + 1 = nI (i * 2 + 1) := by rw [e1]; exact nI_1 _
          have e4 : nI m * 2 + 1 = nI (m * 2 + 1) := by rw [e2]; exact nI_1 _
          rw [e3, e4, e1, e2, nI_clamp (by omega), nI_clamp (by omega), nI_clamp (by omega), nI_clamp (by omega)]
          refine ⟨vp_in_nI (by omega) (by omega), vp_in_nI (by omega) (by omega), vp_in_nI (by omega) (by omega), nm_e ⟨vp_in_nI (by omega) (by omega), vp_in_nI (by omega) (by omega), vp_in_nI (by omega) (by omega), nm_e (nm_r (nI_1 i) (k2 (fl_ro re (i * 2) (m * 2)) (up _ (fun t ht => ?_) (fun s t hs e ht => ?_))))⟩⟩
          · rw [fl_rb re (by omega) (by omega) (by omega) (by omega), if_pos rfl, Bool.or_eq_true, ri t ht, rm t ht]
            exact ⟨fun w => w.imp id (fun w => ⟨(ri m hmN).mp q, w⟩), fun w => w.imp id (fun w => w.2)⟩
          · rw [fl_rb re (by omega) (by omega) (by omega) (by omega), if_neg (by omega)]
        · rw [ri t ht]
          refine ⟨fun w => Or.inl w, fun w => w.elim id (fun w => ?_)⟩
          rw [(ri m hmN).mpr w.1] at q; cases q
  · refine pk_le (fc_N sz) i (fun z => absurd z (by omega)) (fun _ => ?_)
    have e1 : nI i * 2 = nI (i * 2) := by rw [← pk_mul]; rfl
    have e3 : nI i * 2 + 1 = nI (i * 2 + 1) := by rw [e1]; exact nI_1 _
    rw [e3, e1, nI_clamp (by omega), nI_clamp (by omega)]
    refine ⟨vp_in_nI (by omega) (by omega), nm_e ⟨vp_in_nI (by omega) (by omega), nm_e ?_⟩⟩
    refine pk_loop (fun n' t re => wX_closeSteps__calm_35 post (wX_closeSteps__calm_7 post (nI (fc_N sz)) tl fc n) (nI (fc_N sz)) (nI i) tl fc n' (nI t) sz tk ln an fa sk lw hg mv en dp ca rc re ho ae ta ow ts fs) (fun t re => (∀ s t, s < i → t < fc_N sz → (fl_h re (s * 2) t = true ↔ fw_W (fc_N sz) st A 0 s t)) ∧ ∀ t', t' < 128 → (fl_h re (i * 2) t' = true ↔ (t' < t ∧ fw_W (fc_N sz) st A 0 i t'))) (fc_N sz) 0 _ (by omega) ⟨fun s t hs ht => ?_, fun t' ht' => ?_⟩ (fun n' re J => ?_) (fun n' t re ht J k2 => ?_)
    · rw [fl_d0 re (by omega) (by omega) (by omega), if_neg (by omega)]; exact I s t hs ht
    · rw [fl_d0 re (by omega) (by omega) (by omega), if_pos rfl]
      exact ⟨fun z => absurd z (by decide), fun z => absurd z.1 (by omega)⟩
    · refine pk_le (fc_N sz) (fc_N sz) (fun _ => nm_r (nI_1 i) (k re (fun s t hs ht => ?_))) (fun z => absurd z (by omega))
      by_cases e : s = i
      · subst e
        exact (J.2 t (by omega)).trans ⟨fun q => q.2, fun q => ⟨ht, q⟩⟩
      · exact J.1 s t (by omega) ht
    · obtain ⟨J1, J2⟩ := J
      refine pk_le (fc_N sz) t (fun z => absurd z (by omega)) (fun _ => ?_)
      have skip : ¬ fw_W (fc_N sz) st A 0 i t → wX_closeSteps__calm_35 post (wX_closeSteps__calm_7 post (nI (fc_N sz)) tl fc n) (nI (fc_N sz)) (nI i) tl fc n' (nI (t + 1)) sz tk ln an fa sk lw hg mv en dp ca rc re ho ae ta ow ts fs := by
        intro q
        refine k2 re ⟨J1, fun t' ht' => ?_⟩
        by_cases e : t' = t
        · subst e
          exact (J2 t' ht').trans ⟨fun w => absurd w.1 (by omega), fun w => absurd w.2 q⟩
        · exact (J2 t' ht').trans ⟨fun w => ⟨by omega, w.2⟩, fun w => ⟨by omega, w.2⟩⟩
      have t0 : ¬ fw_W (fc_N sz) st A 0 i t → wX_closeSteps__calm_67 post (wX_closeSteps__calm_7 post (nI (fc_N sz)) tl fc n) (wX_closeSteps__calm_35 post (wX_closeSteps__calm_7 post (nI (fc_N sz)) tl fc n) (nI (fc_N sz)) (nI i) tl fc n') (nI (fc_N sz)) (nI i) (nI t) 0 tl fc sz tk ln an fa sk lw hg mv en dp ca rc re ho ae ta ow ts fs := fun q => br_t rfl (nm_r (nI_1 t) (skip q))
      have t1 : (i = t ∨ st i t) → wX_closeSteps__calm_62 post (wX_closeSteps__calm_7 post (nI (fc_N sz)) tl fc n) (wX_closeSteps__calm_35 post (wX_closeSteps__calm_7 post (nI (fc_N sz)) tl fc n) (nI (fc_N sz)) (nI i) tl fc n') (nI (fc_N sz)) (nI i) (nI t) tl fc sz tk ln an fa sk lw hg mv en dp ca rc re ho ae ta ow ts fs := by
        intro q
        refine br_f (by decide) ?_
        rw [nI_clamp (n := i) (by omega), nI_clamp (n := t) (by omega), e1, fl_i (by omega), fl_r (by omega), nI_clamp (by omega)]
        refine ⟨vp_in_nI (by omega) (by omega), br_c (fun a => nm_r (nI_1 t) (skip (fun w => (fi_on hA hi).mp a w.2.2.1))) (fun a => ⟨vp_in_nI (by omega) (by omega), br_c (fun b => nm_r (nI_1 t) (skip (fun w => (fi_on hA ht).mp b w.2.2.2.1))) (fun b => ?_)⟩)⟩
        have w : fw_W (fc_N sz) st A 0 i t := ⟨hi, ht, Classical.byContradiction (fun w => a ((fi_on hA hi).mpr w)), Classical.byContradiction (fun w => b ((fi_on hA ht).mpr w)), q⟩
        refine ⟨fl_64, vp_in_nI (by omega) (by omega), fl_64, vp_in_nI (by omega) (by omega), nm_e (nm_r (nI_1 t) (k2 (fl_put re (i * 2) t) ⟨fun s t' hs ht' => ?_, fun t' ht' => ?_⟩))⟩
        · rw [fl_hs re (by omega) (by omega) (by omega) (by omega), decide_eq_false (by omega), Bool.or_false]; exact J1 s t' hs ht'
        · rw [fl_hs re (by omega) (by omega) (by omega) (by omega), Bool.or_eq_true, decide_eq_true_iff, J2 t' ht']
          by_cases e : t' = t
          · subst e
            exact ⟨fun _ => ⟨by omega, w⟩, fun _ => Or.inr ⟨rfl, rfl⟩⟩
          · exact ⟨fun z => z.elim (fun z => ⟨by omega, z.2⟩) (fun z => absurd z.2 e), fun z => Or.inl ⟨by omega, z.2⟩⟩
      have hx : nI i * 125 + nI t = nI (i * 125 + t) := by rw [← nI_add, ← pk_mul]; rfl
      rw [hx, nI_clamp (by omega)]
      refine pk_eq i t (fun e => t1 (Or.inl e)) (fun e => ⟨vp_in_nI (by omega) (by omega), br_c (fun q => t0 (fun w => ?_)) (fun q => t1 (Or.inr (Classical.byContradiction (fun w => q ((hm i t hi ht e).mpr w)))))⟩)
      exact w.2.2.2.2.elim e ((hm i t hi ht e).mp q)
end FXC
end
section
section FXH
variable {tl fc : Int32} {sz tk ln an fa sk lw hg mv en dp ca rc : Nat → Int32} {re : Nat → Int64} {ho ae ta ow ts fs : Nat → Int32} {st : Nat → Nat → Prop} {A : Nat → Prop}
/-! an Int32 as a set of actions -/
def fb_P (x : Int32) (P : Nat → Prop) : Prop := ∃ f : Nat → Bool, fb_4 x f ∧ ∀ a, a < 4 → (f a = true ↔ P a)
theorem fp_4 {x : Int32} {f : Nat → Bool} (h : fb_4 x f) : fb_P x (fun a => f a = true) := ⟨f, h, fun _ _ => Iff.rfl⟩
theorem fp_c {x : Int32} {P Q : Nat → Prop} (h : fb_P x P) (e : ∀ a, a < 4 → (P a ↔ Q a)) : fb_P x Q := by
  obtain ⟨f, a, b⟩ := h
  exact ⟨f, a, fun i hi => (b i hi).trans (e i hi)⟩
theorem fp_0 : fb_P 0 (fun _ => False) := ⟨_, fb_0, fun _ _ => ⟨fun z => absurd z (by decide), fun z => z.elim⟩⟩
theorem fp_or {x y : Int32} {P Q : Nat → Prop} (h : fb_P x P) (k : fb_P y Q) : fb_P (x ||| y) (fun a => P a ∨ Q a) := by
  obtain ⟨f, a, b⟩ := h
  obtain ⟨g, c, d⟩ := k
  exact ⟨_, fb_or a c, fun i hi => by rw [Bool.or_eq_true, b i hi, d i hi]⟩
theorem fp_and {x y : Int32} {P Q : Nat → Prop} (h : fb_P x P) (k : fb_P y Q) : fb_P (x &&& y) (fun a => P a ∧ Q a) := by
  obtain ⟨f, a, b⟩ := h
  obtain ⟨g, c, d⟩ := k
  exact ⟨_, fb_and a c, fun i hi => by rw [Bool.and_eq_true, b i hi, d i hi]⟩
theorem fp_not {x y : Int32} {P Q : Nat → Prop} (h : fb_P x P) (k : fb_P y Q) : fb_P (x &&& (y ^^^ (-1))) (fun a => P a ∧ ¬ Q a) := by
  obtain ⟨f, a, b⟩ := h
  obtain ⟨g, c, d⟩ := k
  refine ⟨_, fb_not a c, fun i hi => ?_⟩
  rw [Bool.and_eq_true, b i hi, Bool.not_eq_true']
  show P i ∧ g i = false ↔ P i ∧ ¬ Q i
  rw [← d i hi]
  cases g i <;> simp
theorem fp_z {x : Int32} {P : Nat → Prop} (h : fb_P x P) : x = 0 ↔ ∀ a, a < 4 → ¬ P a := by
  obtain ⟨f, a, b⟩ := h
  rw [fb_z a]
  constructor
  · intro q i hi w
    have := (b i hi).mpr w
    rw [q i hi] at this; cases this
  · intro q i hi
    cases e : f i
    · rfl
    · exact absurd ((b i hi).mp e) (q i hi)
/-! homes -/
def fh_1 (N : Nat) (st : Nat → Nat → Prop) (A : Nat → Prop) (s k hh : Nat) : Prop := hh ≤ s ∧ (hh = s ∨ fw_g N st A s hh) ∧ ∀ t, k ≤ t → t < hh → ¬ fw_g N st A s t
theorem fx_fh {post : SX → Prop} (hz : fc_Z sz) (hR : ∀ s t, s < fc_N sz → t < fc_N sz → (fl_h re (s * 2) t = true ↔ fw_W (fc_N sz) st A (fc_N sz) s t))
    (hp : ∀ ho' h, fw_hm (fc_N sz) st A h → (∀ s, s < fc_N sz → ho' s = nI (h s)) → post (tl, fc, sz, tk, ln, an, fa, sk, lw, hg, mv, en, dp, ca, rc, re, ho', ae, ta, ow, ts, fs)) : wpX_findHomes post (tl, fc, sz, tk, ln, an, fa, sk, lw, hg, mv, en, dp, ca, rc, re, ho, ae, ta, ow, ts, fs) := by
  have hN := fc_N1 hz
  unfold wpX_findHomes
  refine fx_ns hz ?_
  refine pk_loop (fun n i ho => wX_findHomes_7 post (nI (fc_N sz)) tl fc n (nI i) sz tk ln an fa sk lw hg mv en dp ca rc re ho ae ta ow ts fs) (fun i ho => ∀ s, s < i → ∃ hh, ho s = nI hh ∧ fh_1 (fc_N sz) st A s 0 hh) (fc_N sz) 0 ho (by omega) (fun s hs => absurd hs (by omega)) (fun n ho I => ?_) (fun n i ho hi I k => ?_)
  · refine pk_le (fc_N sz) (fc_N sz) (fun _ => hp ho (fun s => (ho s).toNatClampNeg) (fun s hs => ?_) (fun s hs => ?_)) (fun z => absurd z (by omega))
    · obtain ⟨hh, e, q⟩ := I s hs
      have e2 : (ho s).toNatClampNeg = hh := by rw [e, nI_clamp (by have := q.1; omega)]
      show (ho s).toNatClampNeg ≤ s ∧ ((ho s).toNatClampNeg = s ∨ fw_g (fc_N sz) st A s (ho s).toNatClampNeg) ∧ ∀ t, t < (ho s).toNatClampNeg → ¬ fw_g (fc_N sz) st A s t
      rw [e2]
      exact ⟨q.1, q.2.1, fun t ht => q.2.2 t (by omega) ht⟩
    · obtain ⟨hh, e, q⟩ := I s hs
      show ho s = nI (ho s).toNatClampNeg
      rw [e, nI_clamp (by have := q.1; omega)]
  · refine pk_le (fc_N sz) i (fun z => absurd z (by omega)) (fun _ => ?_)
    rw [nI_clamp (by omega)]
    refine ⟨vp_in_nI (by omega) (by omega), nm_e (nm_r (fn_sub1 _) ?_)⟩
    refine ⟨i + 1, pk_loopD (fun n' k ho => wX_findHomes_23 post (wX_findHomes_7 post (nI (fc_N sz)) tl fc n) (nI (fc_N sz)) (nI i) tl fc n' (nI k + (-1)) sz tk ln an fa sk lw hg mv en dp ca rc re ho ae ta ow ts fs) (fun k ho => k ≤ i ∧ (∀ s, s < i → ∃ hh, ho s = nI hh ∧ fh_1 (fc_N sz) st A s 0 hh) ∧ ∃ hh, ho i = nI hh ∧ fh_1 (fc_N sz) st A i k hh) (fun n' ho J => ?_) (fun n' t ho J kk => ?_) i _ ⟨Nat.le_refl _, fun s hs => ?_, i, pk_us, Nat.le_refl _, Or.inl rfl, fun t a b => absurd a (by omega)⟩⟩
    · refine br_t (by decide) (nm_r (nI_1 i) (k ho (fun s hs => ?_)))
      by_cases e : s = i
      · subst e; exact J.2.2
      · exact J.2.1 s (by omega)
    · obtain ⟨J1, J2, hh, J3, J4⟩ := J
      rw [pk_m1]
      refine br_f (nI_pos (by omega)) ?_
      have skip : ¬ fw_g (fc_N sz) st A i t → wX_findHomes_23 post (wX_findHomes_7 post (nI (fc_N sz)) tl fc n) (nI (fc_N sz)) (nI i) tl fc n' (nI t + (-1)) sz tk ln an fa sk lw hg mv en dp ca rc re ho ae ta ow ts fs := by
        intro q
        refine kk ho ⟨by omega, J2, hh, J3, J4.1, J4.2.1, fun t' a b => ?_⟩
        by_cases e : t' = t
        · rw [e]; exact q
        · exact J4.2.2 t' (by omega) b
      refine fx_re (by omega) (by omega) (fun a => br_f (by decide) (fx_re (by omega) (by omega) (fun b => br_f (by decide) ?_) (fun b => br_t rfl (nm_e (skip (fun w => ?_)))))) (fun a => br_t rfl (nm_e (skip (fun w => ?_))))
      · rw [nI_clamp (n := i) (by omega)]
        have g : fw_g (fc_N sz) st A i t := ⟨(hR i t hi (by omega)).mp a, (hR t i (by omega) hi).mp b⟩
        refine ⟨vp_in_nI (by omega) (by omega), nm_e (nm_e (kk _ ⟨by omega, fun s hs => ?_, t, pk_us, by omega, Or.inr g, fun t' a b => absurd a (by omega)⟩))⟩
        rw [pk_un (by omega)]; exact J2 s hs
      · rw [(hR t i (by omega) hi).mpr w.2] at b; cases b
      · rw [(hR i t hi (by omega)).mpr w.1] at a; cases a
    · rw [pk_un (by omega)]; exact I s hs
/-! what a component always has enabled, and what it takes -/
theorem fx_sh {post : SX → Prop} {E : Nat → Nat → Bool} {M : Nat → Nat → Nat → Bool} {h : Nat → Nat} (hz : fc_Z sz) (hE : ∀ s, s < fc_N sz → fb_4 (en s) (fun a => E a s)) (hM : ∀ s t, s < fc_N sz → t < fc_N sz → fb_4 (mv (s * 125 + t)) (fun a => M a s t)) (hh : ∀ s, s < fc_N sz → ho s = nI (h s) ∧ h s ≤ s)
    (hp : ∀ ae' ta', (∀ x, x < fc_N sz → fb_P (ae' x) (fun a => E a x = true ∧ ∀ s, s < fc_N sz → h s = x → E a s = true)) → (∀ x, x < fc_N sz → fb_P (ta' x) (fun a => ∃ s t, s < fc_N sz ∧ t < fc_N sz ∧ s ≠ t ∧ h s = x ∧ h t = x ∧ M a s t = true)) → post (tl, fc, sz, tk, ln, an, fa, sk, lw, hg, mv, en, dp, ca, rc, re, ho, ae', ta', ow, ts, fs)) : wpX_sumUpHomes post (tl, fc, sz, tk, ln, an, fa, sk, lw, hg, mv, en, dp, ca, rc, re, ho, ae, ta, ow, ts, fs) := by
  have hN := fc_N1 hz
  unfold wpX_sumUpHomes
  refine fx_ns hz ?_
  refine pk_loop (fun n i (p : (Nat → Int32) × (Nat → Int32)) => wX_sumUpHomes_7 post (nI (fc_N sz)) tl fc n (nI i) sz tk ln an fa sk lw hg mv en dp ca rc re ho p.1 p.2 ow ts fs) (fun i p => ∀ x, x < i → p.1 x = en x ∧ p.2 x = 0) (fc_N sz) 0 (ae, ta) (by omega) (fun s hs => absurd hs (by omega)) (fun n p I => ?_) (fun n i p hi I k => ?_)
  · obtain ⟨ae, ta⟩ := p
    have I : ∀ x, x < fc_N sz → ae x = en x ∧ ta x = 0 := I
    refine pk_le (fc_N sz) (fc_N sz) (fun _ => ?_) (fun z => absurd z (by omega))
    refine pk_loop (fun n i (p : (Nat → Int32) × (Nat → Int32)) => wX_sumUpHomes_39 post (nI (fc_N sz)) tl fc n (nI i) sz tk ln an fa sk lw hg mv en dp ca rc re ho p.1 p.2 ow ts fs) (fun i p => (∀ x, x < fc_N sz → fb_P (p.1 x) (fun a => E a x = true ∧ ∀ s, s < i → h s = x → E a s = true)) ∧ ∀ x, x < fc_N sz → fb_P (p.2 x) (fun a => ∃ s t, s < i ∧ t < fc_N sz ∧ s ≠ t ∧ h s = x ∧ h t = x ∧ M a s t = true)) (fc_N sz) 0 (ae, ta) (by omega) ⟨fun x hx => ?_, fun x hx => ?_⟩ (fun n p J => ?_) (fun n i p hi J k => ?_)
    · show fb_P (ae x) _
      rw [(I x hx).1]
      exact fp_c (fp_4 (hE x hx)) (fun a _ => ⟨fun q => ⟨q, fun s hs => absurd hs (by omega)⟩, fun q => q.1⟩)
    · show fb_P (ta x) _
      rw [(I x hx).2]
      exact fp_c fp_0 (fun a _ => ⟨fun q => q.elim, fun ⟨s, t, hs, _⟩ => absurd hs (by omega)⟩)
    · obtain ⟨ae, ta⟩ := p
      exact pk_le (fc_N sz) (fc_N sz) (fun _ => hp ae ta J.1 J.2) (fun z => absurd z (by omega))
    · obtain ⟨ae, ta⟩ := p
      obtain ⟨J1, J2⟩ := J
      have J1 : ∀ x, x < fc_N sz → fb_P (ae x) (fun a => E a x = true ∧ ∀ s, s < i → h s = x → E a s = true) := J1
      have J2 : ∀ x, x < fc_N sz → fb_P (ta x) (fun a => ∃ s t, s < i ∧ t < fc_N sz ∧ s ≠ t ∧ h s = x ∧ h t = x ∧ M a s t = true) := J2
      refine pk_le (fc_N sz) i (fun z => absurd z (by omega)) (fun _ => ?_)
      rw [nI_clamp (by omega)]
      obtain ⟨eh, hle⟩ := hh i hi
      refine ⟨vp_in_nI (by omega) (by omega), nm_r eh ?_⟩
      rw [nI_clamp (by omega)]
      refine ⟨vp_in_nI (by omega) (by omega), vp_in_nI (by omega) (by omega), vp_in_nI (by omega) (by omega), nm_e ?_⟩
      have K1 : ∀ x, x < fc_N sz → fb_P (upd ae (h i) (ae (h i) &&& en i) x) (fun a => E a x = true ∧ ∀ s, s < i + 1 → h s = x → E a s = true) := by
        intro x hx
        by_cases e : x = h i
        · rw [e, pk_us]
          refine fp_c (fp_and (J1 (h i) (by omega)) (fp_4 (hE i hi))) (fun a _ => ⟨fun q => ⟨q.1.1, fun s hs es => ?_⟩, fun q => ⟨⟨q.1, fun s hs => q.2 s (by omega)⟩, q.2 i (by omega) rfl⟩⟩)
          by_cases ee : s = i
          · rw [ee]; exact q.2
          · exact q.1.2 s (by omega) es
        · rw [pk_un e]
          refine fp_c (J1 x hx) (fun a _ => ⟨fun q => ⟨q.1, fun s hs es => ?_⟩, fun q => ⟨q.1, fun s hs => q.2 s (by omega)⟩⟩)
          by_cases ee : s = i
          · rw [ee] at es; exact absurd es.symm e
          · exact q.2 s (by omega) es
      generalize upd ae (h i) (ae (h i) &&& en i) = ae' at K1
      refine pk_loop (fun n' t ta => wX_sumUpHomes_69 post (wX_sumUpHomes_39 post (nI (fc_N sz)) tl fc n) (nI (fc_N sz)) (nI i) (nI (h i)) tl fc n' (nI t) sz tk ln an fa sk lw hg mv en dp ca rc re ho ae' ta ow ts fs) (fun t ta => ∀ x, x < fc_N sz → fb_P (ta x) (fun a => (∃ s t, s < i ∧ t < fc_N sz ∧ s ≠ t ∧ h s = x ∧ h t = x ∧ M a s t = true) ∨ (x = h i ∧ ∃ t', t' < t ∧ t' ≠ i ∧ h t' = x ∧ M a i t' = true))) (fc_N sz) 0 ta (by omega) (fun x hx => ?_) (fun n' ta L => ?_) (fun n' t ta ht L k2 => ?_)
      · exact fp_c (J2 x hx) (fun a _ => ⟨fun q => Or.inl q, fun q => q.elim id (fun ⟨_, t', ht', _⟩ => absurd ht' (by omega))⟩)
      · refine pk_le (fc_N sz) (fc_N sz) (fun _ => nm_r (nI_1 i) (k (ae', ta) ⟨K1, fun x hx => fp_c (L x hx) (fun a _ => ⟨fun q => ?_, fun q => ?_⟩)⟩)) (fun z => absurd z (by omega))
        · rcases q with ⟨s, t, a1, a2, a3⟩ | ⟨ex, t, a1, a2, a3, a4⟩
          · exact ⟨s, t, by omega, a2, a3⟩
          · exact ⟨i, t, by omega, a1, Ne.symm a2, ex.symm, a3, a4⟩
        · obtain ⟨s, t, a1, a2, a3, a4, a5, a6⟩ := q
          by_cases e : s = i
          · subst e
            exact Or.inr ⟨a4.symm, t, a2, Ne.symm a3, a5, a6⟩
          · exact Or.inl ⟨s, t, by omega, a2, a3, a4, a5, a6⟩
      · refine pk_le (fc_N sz) t (fun z => absurd z (by omega)) (fun _ => ?_)
        have skip : (t = i ∨ h t ≠ h i) → wX_sumUpHomes_69 post (wX_sumUpHomes_39 post (nI (fc_N sz)) tl fc n) (nI (fc_N sz)) (nI i) (nI (h i)) tl fc n' (nI (t + 1)) sz tk ln an fa sk lw hg mv en dp ca rc re ho ae' ta ow ts fs := by
          intro q
          refine k2 ta (fun x hx => fp_c (L x hx) (fun a _ => ⟨fun w => w.imp id (fun ⟨e, t', a1, a2⟩ => ⟨e, t', by omega, a2⟩), fun w => w.imp id (fun ⟨e, t', a1, a2, a3, a4⟩ => ⟨e, t', ?_, a2, a3, a4⟩)⟩))
          by_cases ee : t' = t
          · subst ee
            rcases q with q | q
            · exact absurd q a2
            · exact absurd (a3.trans e) q
          · omega
        obtain ⟨et, htle⟩ := hh t ht
        have hx : nI i * 125 + nI t = nI (i * 125 + t) := by rw [← nI_add, ← pk_mul]; rfl
        rw [hx, nI_clamp (n := t) (by omega), nI_clamp (n := h i) (by omega), nI_clamp (by omega)]
        refine pk_eq t i (fun e => nm_r (nI_1 t) (skip (Or.inl e))) (fun e => ⟨vp_in_nI (by omega) (by omega), pk_eq (h t) (h i) (fun e2 => ?_) (fun e2 => nm_r (nI_1 t) (skip (Or.inr e2))) et⟩)
        refine ⟨vp_in_nI (by omega) (by omega), vp_in_nI (by omega) (by omega), vp_in_nI (by omega) (by omega), nm_e (nm_r (nI_1 t) (k2 _ (fun x hx => ?_)))⟩
        by_cases ex : x = h i
        · subst ex
          rw [pk_us]
          refine fp_c (fp_or (L (h i) (by omega)) (fp_4 (hM i t hi ht))) (fun a _ => ⟨fun w => ?_, fun w => ?_⟩)
          · rcases w with (w | ⟨_, t', a1, a2⟩) | w
            · exact Or.inl w
            · exact Or.inr ⟨rfl, t', by omega, a2⟩
            · exact Or.inr ⟨rfl, t, by omega, e, e2, w⟩
          · rcases w with w | ⟨_, t', a1, a2, a3, a4⟩
            · exact Or.inl (Or.inl w)
            · by_cases ee : t' = t
              · subst ee; exact Or.inr a4
              · exact Or.inl (Or.inr ⟨rfl, t', by omega, a2, a3, a4⟩)
        · rw [pk_un ex]
          exact fp_c (L x hx) (fun a _ => ⟨fun w => w.imp id (fun w => absurd w.1 ex), fun w => w.imp id (fun w => absurd w.1 ex)⟩)
  · obtain ⟨ae, ta⟩ := p
    have I : ∀ x, x < i → ae x = en x ∧ ta x = 0 := I
    refine pk_le (fc_N sz) i (fun z => absurd z (by omega)) (fun _ => ?_)
    rw [nI_clamp (by omega)]
    refine ⟨vp_in_nI (by omega) (by omega), vp_in_nI (by omega) (by omega), nm_e ⟨vp_in_nI (by omega) (by omega), nm_e (nm_r (nI_1 i) (k (_, _) (fun x hx => ?_)))⟩⟩
    show upd ae i (en i) x = _ ∧ upd ta i 0 x = _
    by_cases e : x = i
    · subst e; exact ⟨pk_us, pk_us⟩
    · rw [pk_un e, pk_un e]; exact I x (by omega)
theorem fx_af {post : Int32 → Prop} (S : fx_S sz tk ln) {q : Int32} (hp : ∀ r, fb_P r (fun a => fc_L ln (3 + a) ≠ 0 ∧ fa a = q) → post r) : wpX_actionsWithFairness post (tl, fc, sz, tk, ln, an, fa, sk, lw, hg, mv, en, dp, ca, rc, re, ho, ae, ta, ow, ts, fs) q := by
  refine pk_loop (fun n i x => wX_actionsWithFairness_4 post q tl fc sz tk ln an fa sk lw hg mv en dp ca rc re ho ae ta ow ts fs n x (nI i)) (fun i x => fb_4 x (fun a => decide (a < i) && (decide (fc_L ln (3 + a) ≠ 0) && decide (fa a = q)))) 4 0 0 (by omega) fb_s0 (fun n x I => ?_) (fun n i x hi I k => ?_)
  · refine br_t (by decide) (hp x (fp_c (fp_4 (fb_s4 I)) (fun a _ => ?_)))
    rw [Bool.and_eq_true, decide_eq_true_iff, decide_eq_true_iff]
  · refine pk_le 4 i (fun z => absurd z (by omega)) (fun _ => ?_)
    obtain ⟨h1, h2, h3⟩ := S.2.2 (3 + i) (by omega) (by omega)
    rw [nI_clamp (by omega)]
    refine fx_it hi h1 h2 (fun z => br_f (by decide) ⟨vp_in_nI hi (by omega), br_c (fun w => nm_e (nm_r (nI_1 i) (k _ (fb_st hi I ?_)))) (fun w => nm_r (nI_1 i) (k _ (fb_sf I ?_)))⟩) (fun z => br_t rfl (nm_r (nI_1 i) (k _ (fb_sf I ?_))))
    · rw [decide_eq_true z, decide_eq_true w]; rfl
    · rw [decide_eq_false w, Bool.and_false]
    · rw [decide_eq_false (fun q => q z), Bool.false_and]
end FXH
end
section
section FXF
variable {tl fc : Int32} {sz tk ln an fa sk lw hg mv en dp ca rc : Nat → Int32} {re : Nat → Int64} {ho ae ta ow ts fs : Nat → Int32} {A : Nat → Prop}
theorem fh_un {N : Nat} {st : Nat → Nat → Prop} {A : Nat → Prop} {M : Nat → Nat → Nat → Bool} {E : Nat → Nat → Bool} {ft h : Nat → Nat} (H : fw_hm N st A h) {s : Nat} (hs : s < N) (hA : A s) :
    fw_un N st M E ft A s ↔ ∃ a, a < 4 ∧ ((ft a = 1 ∧ (E a (h s) = true ∧ ∀ s', s' < N → h s' = h s → E a s' = true)) ∨ (ft a ≠ 0 ∧ ft a ≠ 1 ∧ E a s = true)) ∧ ¬ ∃ x y, x < N ∧ y < N ∧ x ≠ y ∧ h x = h s ∧ h y = h s ∧ M a x y = true := by
  have tk : ∀ a, (∃ x y, x < N ∧ y < N ∧ x ≠ y ∧ h x = h s ∧ h y = h s ∧ M a x y = true) ↔ (∃ x y, x < N ∧ y < N ∧ x ≠ y ∧ M a x y = true ∧ fw_g N st A s x ∧ fw_g N st A s y) := by
    intro a
    constructor
    · rintro ⟨x, y, a1, a2, a3, a4, a5, a6⟩
      exact ⟨x, y, a1, a2, a3, a6, (fw_he H hs a1 hA).mp a4, (fw_he H hs a2 hA).mp a5⟩
    · rintro ⟨x, y, a1, a2, a3, a4, a5, a6⟩
      exact ⟨x, y, a1, a2, a3, (fw_he H hs a1 hA).mpr a5, (fw_he H hs a2 hA).mpr a6, a4⟩
  constructor
  · rintro ⟨a, ha, f0, e, al, nt⟩
    refine ⟨a, ha, ?_, fun w => nt ((tk a).mp w)⟩
    by_cases f1 : ft a = 1
    · refine Or.inl ⟨f1, ?_, fun s' hs' es => al f1 s' hs' ((fw_he H hs hs' hA).mp es)⟩
      have g := fw_h1 H hs hA
      exact al f1 _ (fw_in g.1).2.1 g
    · exact Or.inr ⟨f0, f1, e⟩
  · rintro ⟨a, ha, q, nt⟩
    refine ⟨a, ha, ?_⟩
    rcases q with ⟨f1, _, al⟩ | ⟨f0, f1, e⟩
    · exact ⟨by omega, al s hs rfl, fun _ t ht g => al t ht ((fw_he H hs ht hA).mpr g), fun w => nt ((tk a).mpr w)⟩
    · exact ⟨f0, e, fun w => absurd w f1, fun w => nt ((tk a).mpr w)⟩
def ff_t (ln fa : Nat → Int32) (a : Nat) : Nat := if fc_L ln (3 + a) = 0 then 0 else (fa a).toNatClampNeg
theorem ff_1 {ln fa : Nat → Int32} (Fa : fr_f fa) {a : Nat} (ha : a < 4) : ff_t ln fa a = 1 ↔ (fc_L ln (3 + a) ≠ 0 ∧ fa a = 1) := by
  unfold ff_t
  by_cases e : fc_L ln (3 + a) = 0
  · rw [if_pos e]
    exact ⟨fun z => absurd z (by decide), fun z => absurd e z.1⟩
  · rw [if_neg e]
    rcases Fa a ha with q | q | q <;> rw [q]
    · exact ⟨fun z => absurd z (by decide), fun z => absurd z.2 (by decide)⟩
    · exact ⟨fun _ => ⟨e, rfl⟩, fun _ => rfl⟩
    · exact ⟨fun z => absurd z (by decide), fun z => absurd z.2 (by decide)⟩
theorem ff_2 {ln fa : Nat → Int32} (Fa : fr_f fa) {a : Nat} (ha : a < 4) : (ff_t ln fa a ≠ 0 ∧ ff_t ln fa a ≠ 1) ↔ (fc_L ln (3 + a) ≠ 0 ∧ fa a = 2) := by
  unfold ff_t
  by_cases e : fc_L ln (3 + a) = 0
  · rw [if_pos e]
    exact ⟨fun z => absurd rfl z.1, fun z => absurd e z.1⟩
  · rw [if_neg e]
    rcases Fa a ha with q | q | q <;> rw [q]
    · exact ⟨fun z => absurd rfl z.1, fun z => absurd z.2 (by decide)⟩
    · exact ⟨fun z => absurd rfl z.2, fun z => absurd z.2 (by decide)⟩
    · exact ⟨fun _ => ⟨e, rfl⟩, fun _ => ⟨by decide, by decide⟩⟩
theorem fx_ru {post : Int32 → SX → Prop} (S : fx_S sz tk ln) (XX : ∀ s, s < fc_N sz → fx_mvs sz tk ln an mv s ∧ fb_4 (en s) (fun a => fc_en sz tk ln an a s)) (Fa : fr_f fa) (hA : fi_ow rc (fc_N sz) A)
    (hp : ∀ re' ho' ae' ta' rc' r, fi_ow rc' (fc_N sz) (fw_nx (fc_N sz) (fc_st sz tk ln an) (fc_M sz tk ln an) (fc_en sz tk ln an) (ff_t ln fa) A) → ((r = 0 ∧ ∀ s, s < fc_N sz → A s → ¬ fw_un (fc_N sz) (fc_st sz tk ln an) (fc_M sz tk ln an) (fc_en sz tk ln an) (ff_t ln fa) A s) ∨ (r = 1 ∧ ∃ s, s < fc_N sz ∧ A s ∧ fw_un (fc_N sz) (fc_st sz tk ln an) (fc_M sz tk ln an) (fc_en sz tk ln an) (ff_t ln fa) A s)) → post r (tl, fc, sz, tk, ln, an, fa, sk, lw, hg, mv, en, dp, ca, rc', re', ho', ae', ta', ow, ts, fs)) : wpX_removeUnfair post (tl, fc, sz, tk, ln, an, fa, sk, lw, hg, mv, en, dp, ca, rc, re, ho, ae, ta, ow, ts, fs) := by
  have hz := S.1
  have hN := fc_N1 hz
  unfold wpX_removeUnfair
  refine fx_c_recurring hz (fun s t hs ht e => fx_mz (XX s hs).1 ht e) hA (fun re' hR => ?_)
  refine fx_fh hz hR (fun ho' h H hh => ?_)
  refine fx_sh (E := fc_en sz tk ln an) (M := fc_M sz tk ln an) (h := h) hz (fun s hs => (XX s hs).2) (fun s t hs ht => (XX s hs).1 t ht) (fun s hs => ⟨hh s hs, (H s hs).1⟩) (fun ae' ta' hae hta => ?_)
  refine fx_af S (fun weak hw => fx_af S (fun strong hst => fx_ns hz ?_))
  generalize hU : fw_un (fc_N sz) (fc_st sz tk ln an) (fc_M sz tk ln an) (fc_en sz tk ln an) (ff_t ln fa) A = U at hp
  have key : ∀ s, s < fc_N sz → A s → (U s ↔ ¬ ((weak &&& ae' (h s)) &&& (ta' (h s) ^^^ (-1)) = 0 ∧ (strong &&& en s) &&& (ta' (h s) ^^^ (-1)) = 0)) := by
    intro s hs a
    have hle := (H s hs).1
    rw [← hU, fh_un H hs a, fp_z (fp_not (fp_and hw (hae (h s) (by omega))) (hta (h s) (by omega))), fp_z (fp_not (fp_and hst (fp_4 (XX s hs).2)) (hta (h s) (by omega)))]
    constructor
    · rintro ⟨b, hb, q, nt⟩ ⟨w1, w2⟩
      rcases q with ⟨f1, q⟩ | ⟨f0, f1, q⟩
      · exact w1 b hb ⟨⟨(ff_1 Fa hb).mp f1, q⟩, nt⟩
      · exact w2 b hb ⟨⟨(ff_2 Fa hb).mp ⟨f0, f1⟩, q⟩, nt⟩
    · intro w
      refine Classical.byContradiction (fun no => w ⟨fun b hb q => no ⟨b, hb, Or.inl ⟨(ff_1 Fa hb).mpr q.1.1, q.1.2⟩, q.2⟩, fun b hb q => no ⟨b, hb, Or.inr ?_, q.2⟩⟩)
      have := (ff_2 Fa hb).mpr q.1.1
      exact ⟨this.1, this.2, q.1.2⟩
  refine pk_loop (fun n i (p : Int32 × (Nat → Int32)) => wX_removeUnfair_39 post weak strong (nI (fc_N sz)) tl fc n p.1 (nI i) sz tk ln an fa sk lw hg mv en dp ca p.2 re' ho' ae' ta' ow ts fs) (fun i p => fi_ow p.2 (fc_N sz) (fun s => A s ∧ ¬ (s < i ∧ U s)) ∧ ((p.1 = 0 ∧ ∀ s, s < i → A s → ¬ U s) ∨ (p.1 = 1 ∧ ∃ s, s < i ∧ A s ∧ U s))) (fc_N sz) 0 (0, rc) (by omega) ⟨fun s hs => ?_, Or.inl ⟨rfl, fun s hs => absurd hs (by omega)⟩⟩ (fun n p I => ?_) (fun n i p hi I k => ?_)
  · exact (hA s hs).imp (fun q => ⟨q.1, fun w => q.2 w.1⟩) (fun q => ⟨q.1, q.2, fun w => absurd w.1 (by omega)⟩)
  · obtain ⟨x, rc⟩ := p
    obtain ⟨I1, I2⟩ := I
    refine pk_le (fc_N sz) (fc_N sz) (fun _ => ⟨?_, hp re' ho' ae' ta' rc x (fun s hs => ?_) I2⟩) (fun z => absurd z (by omega))
    · rcases I2 with ⟨e, _⟩ | ⟨e, _⟩
      · show narrow .boolean (.int x) = .int x
        rw [show x = 0 from e]; exact fn_n0
      · show narrow .boolean (.int x) = .int x
        rw [show x = 1 from e]; exact fn_n1
    · unfold fw_nx
      rw [hU]
      exact (I1 s hs).imp (fun q => ⟨q.1, fun w => q.2 ⟨w.1, fun z => w.2 z.2⟩⟩) (fun q => ⟨q.1, q.2.1, fun w => q.2.2 ⟨hs, w⟩⟩)
  · obtain ⟨x, rc⟩ := p
    obtain ⟨I1, I2⟩ := I
    have I1 : fi_ow rc (fc_N sz) (fun s => A s ∧ ¬ (s < i ∧ U s)) := I1
    have I2 : (x = 0 ∧ ∀ s, s < i → A s → ¬ U s) ∨ (x = 1 ∧ ∃ s, s < i ∧ A s ∧ U s) := I2
    refine pk_le (fc_N sz) i (fun z => absurd z (by omega)) (fun _ => ?_)
    have hri := fi_on I1 hi
    have stay : ¬ (A i ∧ U i) → wX_removeUnfair_39 post weak strong (nI (fc_N sz)) tl fc n x (nI (i + 1)) sz tk ln an fa sk lw hg mv en dp ca rc re' ho' ae' ta' ow ts fs := by
      intro q
      refine k (x, rc) ⟨fun s hs => ?_, ?_⟩
      · refine (I1 s hs).imp (fun w => ⟨w.1, fun z => w.2 ⟨z.1, fun y => z.2 ⟨by omega, y.2⟩⟩⟩) (fun w => ⟨w.1, w.2.1, fun z => ?_⟩)
        by_cases e : s = i
        · subst e; exact q ⟨w.2.1, z.2⟩
        · exact w.2.2 ⟨by omega, z.2⟩
      · rcases I2 with ⟨e, w⟩ | ⟨e, s, hs, w⟩
        · refine Or.inl ⟨e, fun s hs a u => ?_⟩
          by_cases ee : s = i
          · subst ee; exact q ⟨a, u⟩
          · exact w s (by omega) a u
        · exact Or.inr ⟨e, s, by omega, w⟩
    have out : A i → U i → wX_removeUnfair_116 post (wX_removeUnfair_39 post weak strong (nI (fc_N sz)) tl fc n) weak strong (nI (fc_N sz)) (nI i) tl fc sz tk ln an fa sk lw hg mv en dp ca rc re' ho' ae' ta' ow ts fs := by
      intro a u
      refine ⟨vp_in_nI (by omega) (by omega), ?_⟩
      rw [nI_clamp (by omega), fn_b0]
      refine nm_e (nm_r (nI_1 i) (k (1, _) ⟨fun s hs => ?_, Or.inr ⟨rfl, i, by omega, a, u⟩⟩))
      show (upd rc i 0 s = 0 ∧ _) ∨ (upd rc i 0 s = 1 ∧ _)
      by_cases e : s = i
      · subst e
        rw [pk_us]
        exact Or.inl ⟨rfl, fun w => w.2 ⟨by omega, u⟩⟩
      · rw [pk_un e]
        exact (I1 s hs).imp (fun w => ⟨w.1, fun z => w.2 ⟨z.1, fun y => z.2 ⟨by omega, y.2⟩⟩⟩) (fun w => ⟨w.1, w.2.1, fun z => w.2.2 ⟨by omega, z.2⟩⟩)
    have hle := (H i hi).1
    rw [nI_clamp (n := i) (by omega)]
    refine ⟨vp_in_nI (by omega) (by omega), br_c (fun z => nm_r (nI_1 i) (stay (fun w => hri.mp z ⟨w.1, fun y => absurd y.1 (by omega)⟩))) (fun z => ⟨vp_in_nI (by omega) (by omega), nm_r (hh i hi) ?_⟩)⟩
    have a : A i := (Classical.byContradiction (fun w => z (hri.mpr w)) : A i ∧ _).1
    have kk := key i hi a
    rw [nI_clamp (n := h i) (by omega)]
    refine ⟨vp_in_nI (by omega) (by omega), vp_in_nI (by omega) (by omega), nm_e ⟨vp_in_nI (by omega) (by omega), vp_in_nI (by omega) (by omega), nm_e ?_⟩⟩
    refine br_c (fun w1 => br_c (fun w2 => nm_r (nI_1 i) (stay (fun q => kk.mp q.2 ⟨w1, w2⟩))) (fun w2 => out a (kk.mpr (fun q => w2 q.2)))) (fun w1 => out a (kk.mpr (fun q => w1 q.1)))
/-! states kept in order -/
def fq_f (P : Nat → Prop) (n : Nat) (fs : Nat → Int32) : Prop := ∀ s, s < n → P s → fs (fg_cn P s) = nI s
theorem fq_ft {P : Nat → Prop} {n : Nat} {fs : Nat → Int32} (h : fq_f P n fs) (p : P n) : fq_f P (n + 1) (upd fs (fg_cn P n) (nI n)) := by
  intro s hs ps
  by_cases e : s = n
  · subst e; exact pk_us
  · have : fg_cn P s < fg_cn P n := by
      have h1 : fg_cn P (s + 1) = fg_cn P s + 1 := fg_cn_t ps
      have mono : ∀ a b, a ≤ b → fg_cn P a ≤ fg_cn P b := by
        intro a b hab
        induction b with
        | zero => rw [show a = 0 by omega]; exact Nat.le_refl _
        | succ b ih =>
          by_cases q : a = b + 1
          · rw [q]; exact Nat.le_refl _
          · have := ih (by omega)
            by_cases pb : P b
            · rw [fg_cn_t pb]; omega
            · rw [fg_cn_f pb]; omega
      have := mono (s + 1) n (by omega)
      omega
    rw [pk_un (by omega)]
    exact h s (by omega) ps
theorem fq_ff {P : Nat → Prop} {n : Nat} {fs : Nat → Int32} (h : fq_f P n fs) (p : ¬ P n) : fq_f P (n + 1) fs := by
  intro s hs ps
  by_cases e : s = n
  · subst e; exact absurd ps p
  · exact h s (by omega) ps
theorem fq_fx {P : Nat → Prop} : ∀ n j, j < fg_cn P n → ∃ s, s < n ∧ P s ∧ fg_cn P s = j := by
  intro n
  induction n with
  | zero => intro j hj; exact absurd hj (by show ¬ j < 0; omega)
  | succ n ih =>
    intro j hj
    by_cases p : P n
    · rw [fg_cn_t p] at hj
      by_cases e : j = fg_cn P n
      · exact ⟨n, by omega, p, e.symm⟩
      · obtain ⟨s, a, b⟩ := ih j (by omega)
        exact ⟨s, by omega, b⟩
    · rw [fg_cn_f p] at hj
      obtain ⟨s, a, b⟩ := ih j hj
      exact ⟨s, by omega, b⟩
theorem fq_fe {P : Nat → Prop} {n : Nat} {fs fd : Nat → Int32} (h : fq_f P n fs) (k : fq_f P n fd) : ∀ j, j < fg_cn P n → fs j = fd j := by
  intro j hj
  obtain ⟨s, a, b, c⟩ := fq_fx n j hj
  rw [← c, h s a b, k s a b]
end FXF
end
section
section FX3
variable {tl fc : Int32} {sz tk ln an fa sk lw hg mv en dp ca rc : Nat → Int32} {re : Nat → Int64} {ho ae ta ow ts fs : Nat → Int32} {C F : Nat → Prop}
theorem fx_rr {post : Int32 → Prop} {st : Nat → Nat → Prop} (hz : fc_Z sz) (hF : fi_ow rc (fc_N sz) F) (hR : ∀ s t, s < fc_N sz → t < fc_N sz → (fl_h re (s * 2) t = true ↔ fw_W (fc_N sz) st C (fc_N sz) s t)) {s : Nat} (hs : s < fc_N sz)
    (h1 : (∃ t, t < fc_N sz ∧ F t ∧ fw_W (fc_N sz) st C (fc_N sz) s t) → post 1) (h0 : (¬ ∃ t, t < fc_N sz ∧ F t ∧ fw_W (fc_N sz) st C (fc_N sz) s t) → post 0) : wpX_reachesRecurring post (tl, fc, sz, tk, ln, an, fa, sk, lw, hg, mv, en, dp, ca, rc, re, ho, ae, ta, ow, ts, fs) (nI s) := by
  have hN := fc_N1 hz
  unfold wpX_reachesRecurring
  refine fx_ns hz ?_
  refine pk_loop (fun n i (_ : Unit) => wX_reachesRecurring_7 post (nI s) (nI (fc_N sz)) tl fc sz tk ln an fa sk lw hg mv en dp ca rc re ho ae ta ow ts fs n (nI i)) (fun i _ => ∀ t, t < i → ¬ (F t ∧ fw_W (fc_N sz) st C (fc_N sz) s t)) (fc_N sz) 0 () (by omega) (fun t ht => absurd ht (by omega)) (fun n _ I => ?_) (fun n i _ hi I k => ?_)
  · exact pk_le (fc_N sz) (fc_N sz) (fun _ => h0 (fun ⟨t, a, b⟩ => I t a b)) (fun z => absurd z (by omega))
  · refine pk_le (fc_N sz) i (fun z => absurd z (by omega)) (fun _ => ?_)
    rw [nI_clamp (by omega)]
    have skip : ¬ (F i ∧ fw_W (fc_N sz) st C (fc_N sz) s i) → wX_reachesRecurring_7 post (nI s) (nI (fc_N sz)) tl fc sz tk ln an fa sk lw hg mv en dp ca rc re ho ae ta ow ts fs n (nI (i + 1)) := by
      intro q
      refine k () (fun t ht => ?_)
      by_cases e : t = i
      · rw [e]; exact q
      · exact I t (by omega)
    refine ⟨vp_in_nI (by omega) (by omega), br_c (fun z => nm_r (nI_1 i) (skip (fun w => (fi_on hF hi).mp z w.1))) (fun z => fx_re (by omega) (by omega) (fun q => br_f (by decide) (h1 ⟨i, hi, Classical.byContradiction (fun w => z ((fi_on hF hi).mpr w)), (hR s i hs hi).mp q⟩)) (fun q => br_t rfl (nm_r (nI_1 i) (skip (fun w => ?_)))))⟩
    rw [(hR s i hs hi).mpr w.2] at q; cases q
def ff_P (sz tk ln : Nat → Int32) (st : Nat → Nat → Prop) (C F : Nat → Prop) (s : Nat) : Prop := fw_cm (fc_N sz) st C F s ∧ fc_tr sz tk ln 2 s = true
theorem fx_kf {post : SX → Prop} {st : Nat → Nat → Prop} (S : fx_S sz tk ln) (hm : ∀ s t, s < fc_N sz → t < fc_N sz → s ≠ t → (mv (s * 125 + t) = 0 ↔ ¬ st s t)) (hC : fi_ow ca (fc_N sz) C) (hF : fi_ow rc (fc_N sz) F)
    (hp : ∀ sk' re' fs', fq_f (ff_P sz tk ln st C F) (fc_N sz) fs' → post (tl, nI (fg_cn (ff_P sz tk ln st C F) (fc_N sz)), sz, tk, ln, an, fa, sk', lw, hg, mv, en, dp, ca, rc, re', ho, ae, ta, ow, ts, fs')) : wpX_keepFailing post (tl, fc, sz, tk, ln, an, fa, sk, lw, hg, mv, en, dp, ca, rc, re, ho, ae, ta, ow, ts, fs) := by
  have hz := S.1
  have hN := fc_N1 hz
  unfold wpX_keepFailing
  refine fx_c_calm hz hm hC (fun re' hR => fx_ns hz ?_)
  refine pk_loop (fun n i (p : Int32 × (Nat → Int32) × (Nat → Int32)) => wX_keepFailing_20 post (nI (fc_N sz)) n (nI i) tl p.1 sz tk ln an fa p.2.1 lw hg mv en dp ca rc re' ho ae ta ow ts p.2.2) (fun i p => p.1 = nI (fg_cn (ff_P sz tk ln st C F) i) ∧ fq_f (ff_P sz tk ln st C F) i p.2.2) (fc_N sz) 0 (0, sk, fs) (by omega) ⟨rfl, fun s hs => absurd hs (by omega)⟩ (fun n p I => ?_) (fun n i p hi I k => ?_)
  · obtain ⟨x, sk, fs⟩ := p
    obtain ⟨I1, I2⟩ := I
    have I1 : x = _ := I1
    subst I1
    exact pk_le (fc_N sz) (fc_N sz) (fun _ => hp sk re' fs I2) (fun z => absurd z (by omega))
  · obtain ⟨x, sk, fs⟩ := p
    obtain ⟨I1, I2⟩ := I
    have I1 : x = _ := I1
    subst I1
    have I2 : fq_f (ff_P sz tk ln st C F) i fs := I2
    have hcn := fg_cn_le (ff_P sz tk ln st C F) i
    refine pk_le (fc_N sz) i (fun z => absurd z (by omega)) (fun _ => ?_)
    rw [nI_clamp (n := i) (by omega)]
    obtain ⟨h1, h2, h3⟩ := S.2.2 2 (by omega) (by omega)
    have skip : ∀ sk', ¬ ff_P sz tk ln st C F i → wX_keepFailing_20 post (nI (fc_N sz)) n (nI (i + 1)) tl (nI (fg_cn (ff_P sz tk ln st C F) i)) sz tk ln an fa sk' lw hg mv en dp ca rc re' ho ae ta ow ts fs := by
      intro sk' q
      refine k (_, sk', fs) ⟨?_, fq_ff I2 q⟩
      rw [fg_cn_f q]; rfl
    refine ⟨vp_in_nI (by omega) (by omega), br_c (fun z => nm_r (nI_1 i) (skip sk (fun w => (fi_on hC hi).mp z w.1.1))) (fun z => ?_)⟩
    have c : C i := Classical.byContradiction (fun w => z ((fi_on hC hi).mpr w))
    refine fx_is hz (j := 2) (by omega) (by omega) h3 h1 h2 (fun sk' => ?_)
    by_cases e : fc_tr sz tk ln 2 i = true
    · rw [if_pos e]
      refine br_f (by decide) (fx_rr hz hF hR hi (fun q => br_f (by decide) ?_) (fun q => br_t rfl (nm_r (nI_1 i) (skip sk' (fun w => q w.1.2)))))
      have p : ff_P sz tk ln st C F i := ⟨⟨c, q⟩, e⟩
      rw [nI_clamp (by omega), nI_1]
      refine ⟨vp_in_nI (by omega) (by omega), nm_e (nm_e (nm_r (nI_1 i) (k (_, sk', _) ⟨?_, fq_ft I2 p⟩)))⟩
      rw [fg_cn_t p]; rfl
    · rw [if_neg e]
      exact br_t rfl (nm_r (nI_1 i) (skip sk' (fun w => e w.2)))
/-- calm: reached, and what must come to be is not yet -/
def ff_C (sz tk ln an : Nat → Int32) (s : Nat) : Prop := s < fc_N sz ∧ (∃ d, fg_F (fc_N sz) (fc_i sz tk ln) (fc_st sz tk ln an) d s) ∧ fc_w sz tk ln 0 s = 0
def ff_F (sz tk ln an fa : Nat → Int32) : Nat → Prop := fw_F (fc_N sz) (fc_st sz tk ln an) (fc_M sz tk ln an) (fc_en sz tk ln an) (ff_t ln fa) (ff_C sz tk ln an)
def ff_it (sz tk ln an fa : Nat → Int32) (j : Nat) : Nat → Prop := fw_it (fc_N sz) (fc_st sz tk ln an) (fc_M sz tk ln an) (fc_en sz tk ln an) (ff_t ln fa) (ff_C sz tk ln an) j
def ff_Q (sz tk ln an fa : Nat → Int32) (s : Nat) : Prop := ff_P sz tk ln (fc_st sz tk ln an) (ff_C sz tk ln an) (ff_F sz tk ln an fa) s
theorem ff_r {dp : Nat → Int32} {sz tk ln an : Nat → Int32} (hN : fc_N sz < 2 ^ 30) (hD : fc_Dp sz tk ln an dp) {s : Nat} (hs : s < fc_N sz) : ¬ dp s < 0 ↔ ∃ d, fg_F (fc_N sz) (fc_i sz tk ln) (fc_st sz tk ln an) d s := by
  rcases hD s hs with ⟨d, hd, e, f⟩ | ⟨e, f⟩
  · rw [e]; exact ⟨fun _ => ⟨d, f⟩, fun _ => nI_pos (by omega)⟩
  · rw [e]; exact ⟨fun z => absurd fn_m1lt z, fun ⟨d, q⟩ => absurd q.1 (f d)⟩
/-- a round takes states away, or nothing is left to take -/
theorem ff_ro {sz tk ln an fa : Nat → Int32} {j : Nat} (hj : fg_cn (ff_it sz tk ln an fa j) (fc_N sz) + j ≤ fc_N sz) (h : ∃ s, s < fc_N sz ∧ ff_it sz tk ln an fa j s ∧ fw_un (fc_N sz) (fc_st sz tk ln an) (fc_M sz tk ln an) (fc_en sz tk ln an) (ff_t ln fa) (ff_it sz tk ln an fa j) s) : fg_cn (ff_it sz tk ln an fa (j + 1)) (fc_N sz) + (j + 1) ≤ fc_N sz := by
  have := fw_ct h
  have e : fg_cn (ff_it sz tk ln an fa (j + 1)) (fc_N sz) < fg_cn (ff_it sz tk ln an fa j) (fc_N sz) := this
  omega
theorem ff_no {sz tk ln an fa : Nat → Int32} {j : Nat} (hj : fg_cn (ff_it sz tk ln an fa j) (fc_N sz) + j ≤ fc_N sz) (h : ∀ s, s < fc_N sz → ff_it sz tk ln an fa j s → ¬ fw_un (fc_N sz) (fc_st sz tk ln an) (fc_M sz tk ln an) (fc_en sz tk ln an) (ff_t ln fa) (ff_it sz tk ln an fa j) s) : ff_it sz tk ln an fa (j + 1) = ff_F sz tk ln an fa := by
  have hC : ∀ s, ff_C sz tk ln an s → s < fc_N sz := fun s q => q.1
  have e1 : ff_it sz tk ln an fa j = ff_F sz tk ln an fa := fw_Fe hC (by omega) h
  have e2 : ff_it sz tk ln an fa (j + 1) = ff_it sz tk ln an fa j := fw_fx hC h 1
  rw [e2, e1]
theorem fx_fa {post : Int32 → SX → Prop} (S : fx_S sz tk ln) (X : fx_X sz tk ln an mv en dp) (Fa : fr_f fa) (ok : fc_ok tk ln 0)
    (hp : ∀ sk' ca' rc' re' ho' ae' ta' fs', fq_f (ff_Q sz tk ln an fa) (fc_N sz) fs' → post (nI (fg_cn (ff_Q sz tk ln an fa) (fc_N sz))) (tl, nI (fg_cn (ff_Q sz tk ln an fa) (fc_N sz)), sz, tk, ln, an, fa, sk', lw, hg, mv, en, dp, ca', rc', re', ho', ae', ta', ow, ts, fs')) : ∃ n, wX_fails_21 post (nI (fc_N sz)) n 0 tl fc sz tk ln an fa sk lw hg mv en dp ca rc re ho ae ta ow ts fs := by
  have hz := S.1
  have hN := fc_N1 hz
  have hL0 : fc_L ln 0 ≠ 0 := fun z => by have := ok.2; rw [z] at this; exact fc_ex0 this
  refine pk_loop (fun n i (p : (Nat → Int32) × (Nat → Int32) × (Nat → Int32)) => wX_fails_21 post (nI (fc_N sz)) n (nI i) tl fc sz tk ln an fa p.1 lw hg mv en dp p.2.1 p.2.2 re ho ae ta ow ts fs) (fun i p => fi_ow p.2.1 i (ff_C sz tk ln an) ∧ fi_ow p.2.2 i (ff_C sz tk ln an)) (fc_N sz) 0 (sk, ca, rc) (by omega) ⟨fun s hs => absurd hs (by omega), fun s hs => absurd hs (by omega)⟩ (fun n p I => ?_) (fun n i p hi I k => ?_)
  · obtain ⟨sk, ca, rc⟩ := p
    obtain ⟨I1, I2⟩ := I
    have I1 : fi_ow ca (fc_N sz) (ff_C sz tk ln an) := I1
    have I2 : fi_ow rc (fc_N sz) (ff_C sz tk ln an) := I2
    refine pk_le (fc_N sz) (fc_N sz) (fun _ => ?_) (fun z => absurd z (by omega))
    refine loop_m (fun n (p : Int32 × Nat × (Nat → Int32) × (Nat → Int64) × (Nat → Int32) × (Nat → Int32) × (Nat → Int32)) => wX_fails_77 post (nI (fc_N sz)) n p.1 (nI p.2.1) tl fc sz tk ln an fa sk lw hg mv en dp ca p.2.2.1 p.2.2.2.1 p.2.2.2.2.1 p.2.2.2.2.2.1 p.2.2.2.2.2.2 ow ts fs)
      (fun p => (p.1 = 0 ∧ fi_ow p.2.2.1 (fc_N sz) (ff_F sz tk ln an fa)) ∨ (p.1 = 1 ∧ fi_ow p.2.2.1 (fc_N sz) (ff_it sz tk ln an fa p.2.1) ∧ fg_cn (ff_it sz tk ln an fa p.2.1) (fc_N sz) + p.2.1 ≤ fc_N sz))
      (fun p => if p.1 = 0 then 0 else fc_N sz + 2 - p.2.1) (fun n p J k => ?_) (1, 0, rc, re, ho, ae, ta) (Or.inr ⟨rfl, I2, fg_cn_le _ _⟩)
    · obtain ⟨x, j, rc, re, ho, ae, ta⟩ := p
      rcases J with ⟨e, J⟩ | ⟨e, J1, J2⟩
      · have e : x = 0 := e
        subst e
        refine br_t rfl ?_
        unfold wX_fails_97
        exact fx_kf S (fun s t hs ht e => fx_mz (X.1 s hs).1 ht e) I1 J (fun sk' re' fs' hq => hp sk' ca rc re' ho ae ta fs' hq)
      · have e : x = 1 := e
        subst e
        have J1 : fi_ow rc (fc_N sz) (ff_it sz tk ln an fa j) := J1
        have J2 : fg_cn (ff_it sz tk ln an fa j) (fc_N sz) + j ≤ fc_N sz := J2
        refine br_f (show ¬ (1 : Int32) = 0 by decide) (pk_lt (fc_N sz) j (fun z => absurd z (by omega)) (fun _ => ?_) rfl rfl (by omega) (by omega))
        refine fx_ru S X.1 Fa J1 (fun re' ho' ae' ta' rc' r hr hq => nm_r (nI_1 j) ?_)
        rcases hq with ⟨rfl, hq⟩ | ⟨rfl, hq⟩
        · refine k (0, j + 1, rc', re', ho', ae', ta') (Or.inl ⟨rfl, ?_⟩) ?_
          · have := ff_no J2 hq
            show fi_ow rc' (fc_N sz) (ff_F sz tk ln an fa)
            rw [← this]; exact hr
          · show 0 < fc_N sz + 2 - j
            omega
        · refine k (1, j + 1, rc', re', ho', ae', ta') (Or.inr ⟨rfl, hr, ff_ro J2 hq⟩) ?_
          show fc_N sz + 2 - (j + 1) < fc_N sz + 2 - j
          omega
  · obtain ⟨sk, ca, rc⟩ := p
    obtain ⟨I1, I2⟩ := I
    have I1 : fi_ow ca i (ff_C sz tk ln an) := I1
    have I2 : fi_ow rc i (ff_C sz tk ln an) := I2
    refine pk_le (fc_N sz) i (fun z => absurd z (by omega)) (fun _ => ?_)
    rw [nI_clamp (n := i) (by omega)]
    have hr := ff_r (by omega) X.2 hi
    have fin : ∀ sk' x, ((x = 0 ∧ ¬ ff_C sz tk ln an i) ∨ (x = 1 ∧ ff_C sz tk ln an i)) → wX_fails_54 post (wX_fails_21 post (nI (fc_N sz)) n) (nI (fc_N sz)) (nI i) x (nI i) tl fc sz tk ln an fa sk' lw hg mv en dp ca rc re ho ae ta ow ts fs := by
      intro sk' x hx
      have nb : vp_nar .boolean x = x := by
        rcases hx with ⟨e, _⟩ | ⟨e, _⟩
        · rw [e]; exact fn_b0
        · rw [e]; exact fn_b1
      refine ⟨vp_in_nI (by omega) (by omega), ?_⟩
      rw [nI_clamp (by omega), nb]
      refine nm_e ⟨vp_in_nI (by omega) (by omega), vp_in_nI (by omega) (by omega), ?_⟩
      rw [pk_us, nb]
      refine nm_e (nm_r (nI_1 i) (k (sk', _, _) ⟨fun s hs => ?_, fun s hs => ?_⟩))
      · show (upd ca i x s = 0 ∧ _) ∨ (upd ca i x s = 1 ∧ _)
        by_cases e : s = i
        · subst e; rw [pk_us]; exact hx
        · rw [pk_un e]; exact I1 s (by omega)
      · show (upd rc i x s = 0 ∧ _) ∨ (upd rc i x s = 1 ∧ _)
        by_cases e : s = i
        · subst e; rw [pk_us]; exact hx
        · rw [pk_un e]; exact I2 s (by omega)
    refine ⟨vp_in_nI (by omega) (by omega), br_c (fun d => fin sk 0 (Or.inl ⟨rfl, fun w => hr.mpr w.2.1 d⟩)) (fun d => ?_)⟩
    refine fx_is hz (j := 0) (by omega) (by omega) (Or.inr ok) ok.1.1 ok.1.2.1 (fun sk' => ?_)
    have etr : fc_tr sz tk ln 0 i = decide (fc_w sz tk ln 0 i ≠ 0) := by
      unfold fc_tr; rw [decide_eq_false hL0, Bool.false_or]
    rw [etr]
    by_cases b : fc_w sz tk ln 0 i = 0
    · exact br_t (by rw [decide_eq_false (fun q => q b)]; rfl) (fin sk' 1 (Or.inr ⟨rfl, hi, hr.mp d, b⟩))
    · exact br_f (by rw [decide_eq_true b]; decide) (fin sk' 0 (Or.inl ⟨rfl, fun w => b w.2.2⟩))
end FX3
end
section
section FYC
variable {kn te fl : Int32} {yk yl sz th fa ef : Nat → Int32} {go : Nat → Int64} {gu ye yd : Nat → Int32} {wa al yc : Nat → Int64} {tr fd ys : Nat → Int32} {tk ln an : Nat → Int32} {A : Nat → Prop}
theorem fn_2m (s : Nat) : 2 * nI s = nI (2 * s) := pk_mul 2 s
theorem fy_c2 {post : SY → Prop} (hz : fc_Z sz) (Y : fy_S tk ln an yk yl th ef) (G : fy_G sz tk ln an go) (hA : ∀ s, s < fc_N sz → (fl_h al 0 s = true ↔ A s))
    (hp : ∀ wa', (∀ s t, s < fc_N sz → t < fc_N sz → (fl_h wa' (2 * s) t = true ↔ fw_W (fc_N sz) (fc_st sz tk ln an) A (fc_N sz) s t)) → post (kn, te, fl, yk, yl, sz, th, fa, ef, go, gu, ye, yd, wa', al, yc, tr, fd, ys)) : wpY_close post (kn, te, fl, yk, yl, sz, th, fa, ef, go, gu, ye, yd, wa, al, yc, tr, fd, ys) (nI (fc_N sz)) := by
  have hN := fc_N1 hz
  refine pk_loop (fun n i wa => wY_close_2 post (nI (fc_N sz)) n (nI i) kn te fl yk yl sz th fa ef go gu ye yd wa al yc tr fd ys) (fun i wa => ∀ s t, s < i → t < fc_N sz → (fl_h wa (2 * s) t = true ↔ fw_W (fc_N sz) (fc_st sz tk ln an) A 0 s t)) (fc_N sz) 0 wa (by omega) (fun s t hs => absurd hs (by omega)) (fun n wa I => ?_) (fun n i wa hi I k => ?_)
  · refine pk_le (fc_N sz) (fc_N sz) (fun _ => ?_) (fun z => absurd z (by omega))
    refine pk_loop (fun n m wa => wY_close_100 post (nI (fc_N sz)) kn te fl n (nI m) yk yl sz th fa ef go gu ye yd wa al yc tr fd ys) (fun m wa => ∀ s t, s < fc_N sz → t < fc_N sz → (fl_h wa (2 * s) t = true ↔ fw_W (fc_N sz) (fc_st sz tk ln an) A m s t)) (fc_N sz) 0 wa (by omega) I (fun n wa J => ?_) (fun n m wa hmN J k => ?_)
    · exact pk_le (fc_N sz) (fc_N sz) (fun _ => hp wa J) (fun z => absurd z (by omega))
    · refine pk_le (fc_N sz) m (fun z => absurd z (by omega)) (fun _ => ?_)
      refine pk_loop (fun n' i wa => wY_close_107 post (wY_close_100 post (nI (fc_N sz)) kn te fl n) (nI (fc_N sz)) (nI m) kn te fl n' (nI i) yk yl sz th fa ef go gu ye yd wa al yc tr fd ys) (fun i wa => ∀ s t, s < fc_N sz → t < fc_N sz → (fl_h wa (2 * s) t = true ↔ ((s < i ∧ fw_W (fc_N sz) (fc_st sz tk ln an) A (m + 1) s t) ∨ (i ≤ s ∧ fw_W (fc_N sz) (fc_st sz tk ln an) A m s t)))) (fc_N sz) 0 wa (by omega) (fun s t hs ht => ?_) (fun n' wa L => ?_) (fun n' i wa hi L k2 => ?_)
      · exact (J s t hs ht).trans ⟨fun q => Or.inr ⟨by omega, q⟩, fun q => q.elim (fun w => absurd w.1 (by omega)) (fun w => w.2)⟩
      · refine pk_le (fc_N sz) (fc_N sz) (fun _ => nm_r (nI_1 m) (k wa (fun s t hs ht => ?_))) (fun z => absurd z (by omega))
        exact (L s t hs ht).trans ⟨fun q => q.elim (fun w => w.2) (fun w => absurd w.1 (by omega)), fun q => Or.inl ⟨hs, q⟩⟩
      · refine pk_le (fc_N sz) i (fun z => absurd z (by omega)) (fun _ => ?_)
        have rm : ∀ t, t < fc_N sz → (fl_h wa (2 * m) t = true ↔ fw_W (fc_N sz) (fc_st sz tk ln an) A m m t) := by
          intro t ht
          rw [L m t hmN ht]
          exact ⟨fun q => q.elim (fun w => fw_mm.mp w.2) (fun w => w.2), fun q => if h : m < i then Or.inl ⟨h, fw_mm.mpr q⟩ else Or.inr ⟨by omega, q⟩⟩
        have ri : ∀ t, t < fc_N sz → (fl_h wa (2 * i) t = true ↔ fw_W (fc_N sz) (fc_st sz tk ln an) A m i t) := by
          intro t ht
          rw [L i t hi ht]
          exact ⟨fun q => q.elim (fun w => absurd w.1 (by omega)) (fun w => w.2), fun q => Or.inr ⟨by omega, q⟩⟩
        have up : ∀ re', (∀ t, t < fc_N sz → (fl_h re' (2 * i) t = true ↔ fw_W (fc_N sz) (fc_st sz tk ln an) A (m + 1) i t)) → (∀ s t, s < fc_N sz → s ≠ i → t < fc_N sz → fl_h re' (2 * s) t = fl_h wa (2 * s) t) → ∀ s t, s < fc_N sz → t < fc_N sz → (fl_h re' (2 * s) t = true ↔ ((s < i + 1 ∧ fw_W (fc_N sz) (fc_st sz tk ln an) A (m + 1) s t) ∨ (i + 1 ≤ s ∧ fw_W (fc_N sz) (fc_st sz tk ln an) A m s t))) := by
          intro re' h1 h2 s t hs ht
          by_cases e : s = i
          · subst e
            exact (h1 t ht).trans ⟨fun q => Or.inl ⟨by omega, q⟩, fun q => q.elim (fun w => w.2) (fun w => absurd w.1 (by omega))⟩
          · rw [h2 s t hs e ht]
            exact (L s t hs ht).trans ⟨fun q => q.imp (fun w => ⟨by omega, w.2⟩) (fun w => ⟨by omega, w.2⟩), fun q => q.imp (fun w => ⟨by omega, w.2⟩) (fun w => ⟨by omega, w.2⟩)⟩
        have e3 : 2 * nI i + 1 = nI (2 * i + 1) := by rw [fn_2m]; exact nI_1 _
        have e4 : 2 * nI m + 1 = nI (2 * m + 1) := by rw [fn_2m]; exact nI_1 _
        rw [e3, e4, fn_2m i, fn_2m m, nI_clamp (n := 2 * i) (by omega), nI_clamp (n := 2 * m) (by omega), nI_clamp (n := 2 * i + 1) (by omega), nI_clamp (n := 2 * m + 1) (by omega)]
        refine fy_h_ways (by omega) (by omega) (fun q => br_f (by decide) ?_) (fun q => br_t rfl (nm_r (nI_1 i) (k2 wa (up wa (fun t ht => ?_) (fun _ _ _ _ _ => rfl)))))
        · refine ⟨vp_in_nI (by omega) (by omega), vp_in_nI (by omega) (by omega), vp_in_nI (by omega) (by omega), nm_e ⟨vp_in_nI (by omega) (by omega), vp_in_nI (by omega) (by omega), vp_in_nI (by omega) (by omega), nm_e (nm_r (nI_1 i) (k2 (fl_ro wa (2 * i) (2 * m)) (up _ (fun t ht => ?_) (fun s t hs e ht => ?_))))⟩⟩
          · rw [fl_rb wa (by omega) (by omega) (by omega) (by omega), if_pos rfl, Bool.or_eq_true, ri t ht, rm t ht]
            exact ⟨fun w => w.imp id (fun w => ⟨(ri m hmN).mp q, w⟩), fun w => w.imp id (fun w => w.2)⟩
          · rw [fl_rb wa (by omega) (by omega) (by omega) (by omega), if_neg (by omega)]
        · rw [ri t ht]
          refine ⟨fun w => Or.inl w, fun w => w.elim id (fun w => ?_)⟩
          rw [(ri m hmN).mpr w.1] at q; cases q
  · refine pk_le (fc_N sz) i (fun z => absurd z (by omega)) (fun _ => ?_)
    have e3 : 2 * nI i + 1 = nI (2 * i + 1) := by rw [fn_2m]; exact nI_1 _
    rw [e3, fn_2m i, nI_clamp (by omega), nI_clamp (by omega)]
    refine ⟨vp_in_nI (by omega) (by omega), nm_e ⟨vp_in_nI (by omega) (by omega), nm_e ?_⟩⟩
    refine pk_loop (fun n' t wa => wY_close_29 post (wY_close_2 post (nI (fc_N sz)) n) (nI (fc_N sz)) (nI i) n' (nI t) kn te fl yk yl sz th fa ef go gu ye yd wa al yc tr fd ys) (fun t wa => (∀ s t, s < i → t < fc_N sz → (fl_h wa (2 * s) t = true ↔ fw_W (fc_N sz) (fc_st sz tk ln an) A 0 s t)) ∧ ∀ t', t' < 128 → (fl_h wa (2 * i) t' = true ↔ (t' < t ∧ fw_W (fc_N sz) (fc_st sz tk ln an) A 0 i t'))) (fc_N sz) 0 _ (by omega) ⟨fun s t hs ht => ?_, fun t' ht' => ?_⟩ (fun n' wa J => ?_) (fun n' t wa ht J k2 => ?_)
    · rw [fl_d0 wa (by omega) (by omega) (by omega), if_neg (by omega)]; exact I s t hs ht
    · rw [fl_d0 wa (by omega) (by omega) (by omega), if_pos rfl]
      exact ⟨fun z => absurd z (by decide), fun z => absurd z.1 (by omega)⟩
    · refine pk_le (fc_N sz) (fc_N sz) (fun _ => nm_r (nI_1 i) (k wa (fun s t hs ht => ?_))) (fun z => absurd z (by omega))
      by_cases e : s = i
      · subst e
        exact (J.2 t (by omega)).trans ⟨fun q => q.2, fun q => ⟨ht, q⟩⟩
      · exact J.1 s t (by omega) ht
    · obtain ⟨J1, J2⟩ := J
      refine pk_le (fc_N sz) t (fun z => absurd z (by omega)) (fun _ => ?_)
      have skip : ¬ fw_W (fc_N sz) (fc_st sz tk ln an) A 0 i t → wY_close_29 post (wY_close_2 post (nI (fc_N sz)) n) (nI (fc_N sz)) (nI i) n' (nI (t + 1)) kn te fl yk yl sz th fa ef go gu ye yd wa al yc tr fd ys := by
        intro q
        refine k2 wa ⟨J1, fun t' ht' => ?_⟩
        by_cases e : t' = t
        · subst e
          exact (J2 t' ht').trans ⟨fun w => absurd w.1 (by omega), fun w => absurd w.2 q⟩
        · exact (J2 t' ht').trans ⟨fun w => ⟨by omega, w.2⟩, fun w => ⟨by omega, w.2⟩⟩
      have put : fw_W (fc_N sz) (fc_st sz tk ln an) A 0 i t → wY_close_74 post (wY_close_2 post (nI (fc_N sz)) n) (wY_close_29 post (wY_close_2 post (nI (fc_N sz)) n) (nI (fc_N sz)) (nI i) n') (nI (fc_N sz)) (nI i) (nI t) kn te fl yk yl sz th fa ef go gu ye yd wa al yc tr fd ys := by
        intro w
        unfold wY_close_74
        rw [fn_2m i]
        refine fy_p_ways (by omega) (by omega) (nm_r (nI_1 t) (k2 (fl_put wa (2 * i) t) ⟨fun s t' hs ht' => ?_, fun t' ht' => ?_⟩))
        · rw [fl_hs wa (by omega) (by omega) (by omega) (by omega), decide_eq_false (by omega), Bool.or_false]; exact J1 s t' hs ht'
        · rw [fl_hs wa (by omega) (by omega) (by omega) (by omega), Bool.or_eq_true, decide_eq_true_iff, J2 t' ht']
          by_cases e : t' = t
          · subst e
            exact ⟨fun _ => ⟨by omega, w⟩, fun _ => Or.inr ⟨rfl, rfl⟩⟩
          · exact ⟨fun z => z.elim (fun z => ⟨by omega, z.2⟩) (fun z => absurd z.2 e), fun z => Or.inl ⟨by omega, z.2⟩⟩
      refine fy_h_alive (b := 0) (by omega) (by omega) (fun a => br_f (by decide) (fy_h_alive (b := 0) (by omega) (by omega) (fun b => br_f (by decide) (pk_eq i t (fun e => put ⟨hi, ht, (hA i hi).mp a, (hA t ht).mp b, Or.inl e⟩) (fun e => fy_sp hz Y G hi ht (fun w => br_f (by decide) (put ⟨hi, ht, (hA i hi).mp a, (hA t ht).mp b, Or.inr w⟩)) (fun w => br_t rfl (nm_r (nI_1 t) (skip (fun z => z.2.2.2.2.elim e w))))))) (fun b => br_t rfl (nm_r (nI_1 t) (skip (fun z => ?_)))))) (fun a => br_t rfl (nm_r (nI_1 t) (skip (fun z => ?_))))
      · rw [(hA t ht).mpr z.2.2.2.1] at b; cases b
      · rw [(hA i hi).mpr z.2.2.1] at a; cases a
theorem fy_tg {post : Int32 → Prop} {st : Nat → Nat → Prop} (hz : fc_Z sz) (hR : ∀ s t, s < fc_N sz → t < fc_N sz → (fl_h wa (2 * s) t = true ↔ fw_W (fc_N sz) st A (fc_N sz) s t)) {s t : Nat} (hs : s < fc_N sz) (ht : t < fc_N sz)
    (h1 : fw_g (fc_N sz) st A s t → post 1) (h0 : ¬ fw_g (fc_N sz) st A s t → post 0) : wpY_together post (kn, te, fl, yk, yl, sz, th, fa, ef, go, gu, ye, yd, wa, al, yc, tr, fd, ys) (nI s) (nI t) := by
  have hN := fc_N1 hz
  unfold wpY_together
  dsimp only
  rw [fn_2m s, fn_2m t]
  refine fy_h_ways (by omega) (by omega) (fun a => br_f (by decide) (fy_h_ways (by omega) (by omega) (fun b => br_f (by decide) (h1 ⟨(hR s t hs ht).mp a, (hR t s ht hs).mp b⟩)) (fun b => br_t rfl (h0 (fun z => ?_))))) (fun a => br_t rfl (h0 (fun z => ?_)))
  · rw [(hR t s ht hs).mpr z.2] at b; cases b
  · rw [(hR s t hs ht).mpr z.1] at a; cases a
theorem fy_tn {post : Int32 → Prop} {st : Nat → Nat → Prop} (hz : fc_Z sz) (Y : fy_S tk ln an yk yl th ef) (G : fy_G sz tk ln an go) (hR : ∀ s t, s < fc_N sz → t < fc_N sz → (fl_h wa (2 * s) t = true ↔ fw_W (fc_N sz) st A (fc_N sz) s t)) {a s : Nat} (ha : a < 4) (hs : s < fc_N sz)
    (h1 : (∃ x y, x < fc_N sz ∧ y < fc_N sz ∧ x ≠ y ∧ fc_M sz tk ln an a x y = true ∧ fw_g (fc_N sz) st A s x ∧ fw_g (fc_N sz) st A s y) → post 1)
    (h0 : (¬ ∃ x y, x < fc_N sz ∧ y < fc_N sz ∧ x ≠ y ∧ fc_M sz tk ln an a x y = true ∧ fw_g (fc_N sz) st A s x ∧ fw_g (fc_N sz) st A s y) → post 0) : wpY_taken post (kn, te, fl, yk, yl, sz, th, fa, ef, go, gu, ye, yd, wa, al, yc, tr, fd, ys) (nI a) (nI s) (nI (fc_N sz)) := by
  have hN := fc_N1 hz
  refine pk_loop (fun n i (_ : Unit) => wY_taken_3 post (nI a) (nI s) (nI (fc_N sz)) kn te fl yk yl sz th fa ef go gu ye yd wa al yc tr fd ys n (nI i)) (fun i _ => ∀ x y, x < i → y < fc_N sz → ¬ (x ≠ y ∧ fc_M sz tk ln an a x y = true ∧ fw_g (fc_N sz) st A s x ∧ fw_g (fc_N sz) st A s y)) (fc_N sz) 0 () (by omega) (fun x y hx => absurd hx (by omega)) (fun n _ I => ?_) (fun n x _ hx I k => ?_)
  · exact pk_le (fc_N sz) (fc_N sz) (fun _ => h0 (fun ⟨x, y, a1, a2, a3⟩ => I x y a1 a2 a3)) (fun z => absurd z (by omega))
  · refine pk_le (fc_N sz) x (fun z => absurd z (by omega)) (fun _ => ?_)
    refine pk_loop (fun n' i (_ : Unit) => wY_taken_12 post (wY_taken_3 post (nI a) (nI s) (nI (fc_N sz)) kn te fl yk yl sz th fa ef go gu ye yd wa al yc tr fd ys n) (nI a) (nI s) (nI (fc_N sz)) (nI x) kn te fl yk yl sz th fa ef go gu ye yd wa al yc tr fd ys n' (nI i)) (fun i _ => ∀ y, y < i → ¬ (x ≠ y ∧ fc_M sz tk ln an a x y = true ∧ fw_g (fc_N sz) st A s x ∧ fw_g (fc_N sz) st A s y)) (fc_N sz) 0 () (by omega) (fun y hy => absurd hy (by omega)) (fun n' _ J => ?_) (fun n' y _ hy J k2 => ?_)
    · refine pk_le (fc_N sz) (fc_N sz) (fun _ => nm_r (nI_1 x) (k () (fun x' y h1 h2 => ?_))) (fun z => absurd z (by omega))
      by_cases e : x' = x
      · rw [e]; exact J y h2
      · exact I x' y (by omega) h2
    · refine pk_le (fc_N sz) y (fun z => absurd z (by omega)) (fun _ => ?_)
      have skip : ¬ (x ≠ y ∧ fc_M sz tk ln an a x y = true ∧ fw_g (fc_N sz) st A s x ∧ fw_g (fc_N sz) st A s y) → wY_taken_12 post (wY_taken_3 post (nI a) (nI s) (nI (fc_N sz)) kn te fl yk yl sz th fa ef go gu ye yd wa al yc tr fd ys n) (nI a) (nI s) (nI (fc_N sz)) (nI x) kn te fl yk yl sz th fa ef go gu ye yd wa al yc tr fd ys n' (nI (y + 1)) := by
        intro q
        refine k2 () (fun y' hy' => ?_)
        by_cases e : y' = y
        · rw [e]; exact q
        · exact J y' (by omega)
      refine pk_eq x y (fun e => nm_r (nI_1 y) (skip (fun w => w.1 e))) (fun e => fy_gt hz Y G ha hx hy (fun m => br_f (by decide) (fy_tg hz hR hs hx (fun g1 => br_f (by decide) (fy_tg hz hR hs hy (fun g2 => br_f (by decide) (h1 ⟨x, y, hx, hy, e, m, g1, g2⟩)) (fun g2 => br_t rfl (nm_r (nI_1 y) (skip (fun w => g2 w.2.2.2)))))) (fun g1 => br_t rfl (nm_r (nI_1 y) (skip (fun w => g1 w.2.2.1)))))) (fun m => br_t rfl (nm_r (nI_1 y) (skip (fun w => ?_)))))
      rw [m] at w; exact absurd w.2.1 (by decide)
theorem ff_0 {ln fa : Nat → Int32} (Fa : fr_f fa) {a : Nat} (ha : a < 4) : ff_t ln fa a ≠ 0 ↔ (fc_L ln (3 + a) ≠ 0 ∧ fa a ≠ 0) := by
  unfold ff_t
  by_cases e : fc_L ln (3 + a) = 0
  · rw [if_pos e]
    exact ⟨fun z => absurd rfl z, fun z => absurd e z.1⟩
  · rw [if_neg e]
    rcases Fa a ha with q | q | q <;> rw [q]
    · exact ⟨fun z => absurd rfl z, fun z => absurd rfl z.2⟩
    · exact ⟨fun _ => ⟨e, by decide⟩, fun _ => by decide⟩
    · exact ⟨fun _ => ⟨e, by decide⟩, fun _ => by decide⟩
theorem fy_uf {post : Int32 → Prop} (hz : fc_Z sz) (Y : fy_S tk ln an yk yl th ef) (G : fy_G sz tk ln an go) (Fa : fr_f fa) (hE : ∀ s, s < fc_N sz → fb_4 (ye s) (fun a => fc_en sz tk ln an a s))
    (hR : ∀ s t, s < fc_N sz → t < fc_N sz → (fl_h wa (2 * s) t = true ↔ fw_W (fc_N sz) (fc_st sz tk ln an) A (fc_N sz) s t)) {s : Nat} (hs : s < fc_N sz)
    (h1 : fw_un (fc_N sz) (fc_st sz tk ln an) (fc_M sz tk ln an) (fc_en sz tk ln an) (ff_t ln fa) A s → post 1) (h0 : ¬ fw_un (fc_N sz) (fc_st sz tk ln an) (fc_M sz tk ln an) (fc_en sz tk ln an) (ff_t ln fa) A s → post 0) : wpY_unfair post (kn, te, fl, yk, yl, sz, th, fa, ef, go, gu, ye, yd, wa, al, yc, tr, fd, ys) (nI s) (nI (fc_N sz)) := by
  have hN := fc_N1 hz
  refine pk_loop (fun n i (_ : Unit) => wY_unfair_2 post (nI s) (nI (fc_N sz)) kn te fl yk yl sz th fa ef go gu ye yd wa al yc tr fd ys n (nI i)) (fun i _ => ∀ b, b < i → ¬ (ff_t ln fa b ≠ 0 ∧ fc_en sz tk ln an b s = true ∧ (ff_t ln fa b = 1 → ∀ t, t < fc_N sz → fw_g (fc_N sz) (fc_st sz tk ln an) A s t → fc_en sz tk ln an b t = true) ∧ ¬ ∃ x y, x < fc_N sz ∧ y < fc_N sz ∧ x ≠ y ∧ fc_M sz tk ln an b x y = true ∧ fw_g (fc_N sz) (fc_st sz tk ln an) A s x ∧ fw_g (fc_N sz) (fc_st sz tk ln an) A s y)) 4 0 () (by omega) (fun b hb => absurd hb (by omega)) (fun n _ I => ?_) (fun n a _ ha I k => ?_)
  · exact br_t (by decide) (h0 (fun ⟨b, hb, q⟩ => I b hb q))
  · refine pk_le 4 a (fun z => absurd z (by omega)) (fun _ => ?_)
    rw [nI_clamp (n := a) (by omega), nI_clamp (n := s) (by omega)]
    have skip : ¬ (ff_t ln fa a ≠ 0 ∧ fc_en sz tk ln an a s = true ∧ (ff_t ln fa a = 1 → ∀ t, t < fc_N sz → fw_g (fc_N sz) (fc_st sz tk ln an) A s t → fc_en sz tk ln an a t = true) ∧ ¬ ∃ x y, x < fc_N sz ∧ y < fc_N sz ∧ x ≠ y ∧ fc_M sz tk ln an a x y = true ∧ fw_g (fc_N sz) (fc_st sz tk ln an) A s x ∧ fw_g (fc_N sz) (fc_st sz tk ln an) A s y) → wY_unfair_2 post (nI s) (nI (fc_N sz)) kn te fl yk yl sz th fa ef go gu ye yd wa al yc tr fd ys n (nI (a + 1)) := by
      intro q
      refine k () (fun b hb => ?_)
      by_cases e : b = a
      · rw [e]; exact q
      · exact I b (by omega)
    have f0 := ff_0 (ln := ln) Fa ha
    have f1 := ff_1 (ln := ln) Fa ha
    have ee := fb_t0 (hE s hs) ha
    refine ⟨vp_in_nI ha (by omega), br_c (fun z => nm_r (nI_1 a) (skip (fun w => (f0.mp w.1).1 ((fy_th Y ha).mp z)))) (fun z => ⟨vp_in_nI ha (by omega), br_c (fun z2 => nm_r (nI_1 a) (skip (fun w => (f0.mp w.1).2 z2))) (fun z2 => ⟨vp_in_nI (by omega) (by omega), br_c (fun z3 => nm_r (nI_1 a) (skip (fun w => ?_))) (fun z3 => ?_)⟩)⟩)⟩
    · have := ee.mp z3
      rw [w.2.1] at this; cases this
    · have hL : fc_L ln (3 + a) ≠ 0 := fun w => z ((fy_th Y ha).mpr w)
      have ft0 : ff_t ln fa a ≠ 0 := f0.mpr ⟨hL, z2⟩
      have e1 : fc_en sz tk ln an a s = true := by
        cases q : fc_en sz tk ln an a s
        · exact absurd (ee.mpr q) z3
        · rfl
      have t96 : ∀ x : Int32, ((x = 0 ∧ ¬ (ff_t ln fa a = 1 → ∀ t, t < fc_N sz → fw_g (fc_N sz) (fc_st sz tk ln an) A s t → fc_en sz tk ln an a t = true)) ∨ (x = 1 ∧ (ff_t ln fa a = 1 → ∀ t, t < fc_N sz → fw_g (fc_N sz) (fc_st sz tk ln an) A s t → fc_en sz tk ln an a t = true))) → wY_unfair_96 post (wY_unfair_2 post (nI s) (nI (fc_N sz)) kn te fl yk yl sz th fa ef go gu ye yd wa al yc tr fd ys n) (nI s) (nI (fc_N sz)) (nI a) x kn te fl yk yl sz th fa ef go gu ye yd wa al yc tr fd ys := by
        rintro x (⟨rfl, q⟩ | ⟨rfl, q⟩)
        · exact br_t rfl (nm_r (nI_1 a) (skip (fun w => q w.2.2.1)))
        · exact br_f (by decide) (fy_tn hz Y G hR ha hs (fun w => br_f (by decide) (nm_r (nI_1 a) (skip (fun v => v.2.2.2 w)))) (fun w => br_t rfl (h1 ⟨a, ha, ft0, e1, q, w⟩)))
      by_cases q1 : fa a = 1
      · refine pk_loop (fun n' t x => wY_unfair_47 post (wY_unfair_2 post (nI s) (nI (fc_N sz)) kn te fl yk yl sz th fa ef go gu ye yd wa al yc tr fd ys n) (nI s) (nI (fc_N sz)) (nI a) kn te fl yk yl sz th fa ef go gu ye yd wa al yc tr fd ys n' x (nI t)) (fun t x => (x = 0 ∧ ∃ t', t' < fc_N sz ∧ fw_g (fc_N sz) (fc_st sz tk ln an) A s t' ∧ ¬ fc_en sz tk ln an a t' = true) ∨ (x = 1 ∧ ∀ t', t' < t → fw_g (fc_N sz) (fc_st sz tk ln an) A s t' → fc_en sz tk ln an a t' = true)) (fc_N sz) 0 1 (by omega) (Or.inr ⟨rfl, fun t' h => absurd h (by omega)⟩) (fun n' x J => ?_) (fun n' t x ht J k2 => ?_)
        · refine pk_le (fc_N sz) (fc_N sz) (fun _ => t96 x ?_) (fun z => absurd z (by omega))
          exact J.imp (fun ⟨e, t', a1, a2, a3⟩ => ⟨e, fun w => a3 (w (f1.mpr ⟨hL, q1⟩) t' a1 a2)⟩) (fun ⟨e, w⟩ => ⟨e, fun _ => w⟩)
        · refine pk_le (fc_N sz) t (fun z => absurd z (by omega)) (fun _ => ?_)
          rw [nI_clamp (n := a) (by omega), nI_clamp (n := t) (by omega)]
          have et := fb_t0 (hE t ht) ha
          have same : (fw_g (fc_N sz) (fc_st sz tk ln an) A s t → fc_en sz tk ln an a t = true) → wY_unfair_47 post (wY_unfair_2 post (nI s) (nI (fc_N sz)) kn te fl yk yl sz th fa ef go gu ye yd wa al yc tr fd ys n) (nI s) (nI (fc_N sz)) (nI a) kn te fl yk yl sz th fa ef go gu ye yd wa al yc tr fd ys n' x (nI (t + 1)) := by
            intro q
            refine k2 x (J.imp id (fun ⟨e, w⟩ => ⟨e, fun t' ht' g => ?_⟩))
            by_cases e2 : t' = t
            · subst e2; exact q g
            · exact w t' (by omega) g
          refine ⟨vp_in_nI ha (by omega), br_t q1 (fy_tg hz hR hs ht (fun g => br_f (by decide) ⟨vp_in_nI (by omega) (by omega), br_c (fun q => nm_r (nI_1 t) (k2 0 (Or.inl ⟨rfl, t, ht, g, ?_⟩))) (fun q => nm_r (nI_1 t) (same (fun _ => ?_)))⟩) (fun g => br_t rfl (nm_r (nI_1 t) (same (fun w => absurd w g)))))⟩
          · rw [et.mp q]; decide
          · cases w : fc_en sz tk ln an a t
            · exact absurd (et.mpr w) q
            · rfl
      · refine ⟨1, ?_⟩
        refine pk_le (fc_N sz) 0 (fun z => absurd z (by omega)) (fun _ => ?_)
        rw [nI_clamp (n := a) (by omega)]
        exact ⟨vp_in_nI ha (by omega), br_f q1 (t96 1 (Or.inr ⟨rfl, fun w => absurd (f1.mp w).2 q1⟩))⟩
end FYC
end
section
section FYF
variable {kn te fl : Int32} {yk yl sz th fa ef : Nat → Int32} {go : Nat → Int64} {gu ye yd : Nat → Int32} {wa al yc : Nat → Int64} {tr fd ys : Nat → Int32} {tk ln an : Nat → Int32} {C F : Nat → Prop}
/-! come: the calm states from which a step leads to one that is alive -/
theorem fy_co {post : SY → Prop} (hz : fc_Z sz) (Y : fy_S tk ln an yk yl th ef) (G : fy_G sz tk ln an go) (hCN : ∀ s, C s → s < fc_N sz) (hFC : ∀ s, F s → C s) (hC : ∀ s, s < fc_N sz → (fl_h yc 0 s = true ↔ C s)) (hF : ∀ s, s < fc_N sz → (fl_h al 0 s = true ↔ F s))
    (hp : ∀ al', (∀ s, s < fc_N sz → (fl_h al' 0 s = true ↔ fw_cm (fc_N sz) (fc_st sz tk ln an) C F s)) → post (kn, te, fl, yk, yl, sz, th, fa, ef, go, gu, ye, yd, wa, al', yc, tr, fd, ys)) : wpY_come post (kn, te, fl, yk, yl, sz, th, fa, ef, go, gu, ye, yd, wa, al, yc, tr, fd, ys) (nI (fc_N sz)) := by
  have hN := fc_N1 hz
  refine loop_m (fun n (p : Int32 × (Nat → Int64)) => wY_come_2 post (nI (fc_N sz)) n p.1 kn te fl yk yl sz th fa ef go gu ye yd wa p.2 yc tr fd ys)
    (fun p => (p.1 = 0 ∧ ∀ s, s < fc_N sz → (fl_h p.2 0 s = true ↔ fw_cm (fc_N sz) (fc_st sz tk ln an) C F s)) ∨ (p.1 = 1 ∧ (∀ s, F s → fl_h p.2 0 s = true) ∧ ∀ s, s < fc_N sz → fl_h p.2 0 s = true → fw_cm (fc_N sz) (fc_st sz tk ln an) C F s))
    (fun p => if p.1 = 0 then 0 else 1 + fc_N sz - fg_cn (fun s => fl_h p.2 0 s = true) (fc_N sz)) (fun n p J k => ?_) (1, al) (Or.inr ⟨rfl, fun s f => (hF s (hCN s (hFC s f))).mpr f, fun s hs q => fw_c0 hCN hFC ((hF s hs).mp q)⟩)
  obtain ⟨x, al⟩ := p
  rcases J with ⟨e, J⟩ | ⟨e, J1, J2⟩
  · have e : x = 0 := e
    subst e
    exact br_t rfl (hp al J)
  · have e : x = 1 := e
    subst e
    have J1 : ∀ s, F s → fl_h al 0 s = true := J1
    have J2 : ∀ s, s < fc_N sz → fl_h al 0 s = true → fw_cm (fc_N sz) (fc_st sz tk ln an) C F s := J2
    refine br_f (show ¬ (1 : Int32) = 0 by decide) ?_
    refine pk_loop (fun n' i (p : Int32 × (Nat → Int64)) => wY_come_10 post (wY_come_2 post (nI (fc_N sz)) n) (nI (fc_N sz)) n' p.1 (nI i) kn te fl yk yl sz th fa ef go gu ye yd wa p.2 yc tr fd ys)
      (fun i p => (∀ s, s < fc_N sz → fl_h al 0 s = true → fl_h p.2 0 s = true) ∧ (∀ s, s < fc_N sz → fl_h p.2 0 s = true → fw_cm (fc_N sz) (fc_st sz tk ln an) C F s) ∧ ((p.1 = 0 ∧ (∀ s, s < fc_N sz → fl_h p.2 0 s = fl_h al 0 s) ∧ ∀ s, s < i → C s → (∃ t, t < fc_N sz ∧ fl_h al 0 t = true ∧ fc_st sz tk ln an s t) → fl_h al 0 s = true) ∨ (p.1 = 1 ∧ ∃ s, s < fc_N sz ∧ fl_h p.2 0 s = true ∧ fl_h al 0 s = false))) (fc_N sz) 0 (0, al) (by omega) ⟨fun _ _ q => q, J2, Or.inl ⟨rfl, fun _ _ => rfl, fun s hs => absurd hs (by omega)⟩⟩ (fun n' p L => ?_) (fun n' i p hi L k2 => ?_)
    · obtain ⟨x, bl⟩ := p
      obtain ⟨L1, L2, L3⟩ := L
      have L1 : ∀ s, s < fc_N sz → fl_h al 0 s = true → fl_h bl 0 s = true := L1
      have L2 : ∀ s, s < fc_N sz → fl_h bl 0 s = true → fw_cm (fc_N sz) (fc_st sz tk ln an) C F s := L2
      refine pk_le (fc_N sz) (fc_N sz) (fun _ => ?_) (fun z => absurd z (by omega))
      have hc := fg_cn_le (fun s => fl_h al 0 s = true) (fc_N sz)
      rcases L3 with ⟨e, M1, M2⟩ | ⟨e, s, hs, M1, M2⟩
      · have e : x = 0 := e
        subst e
        have M1 : ∀ s, s < fc_N sz → fl_h bl 0 s = fl_h al 0 s := M1
        refine k (0, bl) (Or.inl ⟨rfl, fun s hs => ?_⟩) ?_
        · show fl_h bl 0 s = true ↔ _
          rw [M1 s hs]
          have := fw_ce (N := fc_N sz) (st := fc_st sz tk ln an) (C := C) (F := F) (B := fun s => s < fc_N sz ∧ fl_h al 0 s = true) hCN hFC (fun s f => ⟨hCN s (hFC s f), J1 s f⟩) (fun s q => J2 s q.1 q.2) (fun s hs c ⟨t, a, b⟩ => ⟨hs, M2 s hs c ⟨t, a.1, a.2, b⟩⟩) s
          exact ⟨fun q => this.mp ⟨hs, q⟩, fun q => (this.mpr q).2⟩
        · show 0 < 1 + fc_N sz - fg_cn (fun s => fl_h al 0 s = true) (fc_N sz)
          omega
      · have e : x = 1 := e
        subst e
        have M1 : fl_h bl 0 s = true := M1
        refine k (1, bl) (Or.inr ⟨rfl, fun s f => L1 s (hCN s (hFC s f)) (J1 s f), L2⟩) ?_
        show 1 + fc_N sz - fg_cn (fun s => fl_h bl 0 s = true) (fc_N sz) < 1 + fc_N sz - fg_cn (fun s => fl_h al 0 s = true) (fc_N sz)
        have := fg_cn_lt (P := fun s => fl_h al 0 s = true) (Q := fun s => fl_h bl 0 s = true) (fc_N sz) L1 ⟨s, hs, M1, fun w => by rw [M2] at w; cases w⟩
        omega
    · obtain ⟨x, bl⟩ := p
      obtain ⟨L1, L2, L3⟩ := L
      have L1 : ∀ s, s < fc_N sz → fl_h al 0 s = true → fl_h bl 0 s = true := L1
      have L2 : ∀ s, s < fc_N sz → fl_h bl 0 s = true → fw_cm (fc_N sz) (fc_st sz tk ln an) C F s := L2
      have L3 : (x = 0 ∧ (∀ s, s < fc_N sz → fl_h bl 0 s = fl_h al 0 s) ∧ ∀ s, s < i → C s → (∃ t, t < fc_N sz ∧ fl_h al 0 t = true ∧ fc_st sz tk ln an s t) → fl_h al 0 s = true) ∨ (x = 1 ∧ ∃ s, s < fc_N sz ∧ fl_h bl 0 s = true ∧ fl_h al 0 s = false) := L3
      refine pk_le (fc_N sz) i (fun z => absurd z (by omega)) (fun _ => ?_)
      have skip : (¬ C i ∨ fl_h bl 0 i = true ∨ ¬ ∃ t, t < fc_N sz ∧ fl_h bl 0 t = true ∧ fc_st sz tk ln an i t) → wY_come_10 post (wY_come_2 post (nI (fc_N sz)) n) (nI (fc_N sz)) n' x (nI (i + 1)) kn te fl yk yl sz th fa ef go gu ye yd wa bl yc tr fd ys := by
        intro q
        refine k2 (x, bl) ⟨L1, L2, L3.imp (fun ⟨e, M1, M2⟩ => ⟨e, M1, fun s hs c w => ?_⟩) id⟩
        by_cases e2 : s = i
        · subst e2
          rcases q with q | q | q
          · exact absurd c q
          · rw [← M1 s hi]; exact q
          · obtain ⟨t, a1, a2, a3⟩ := w
            exact absurd ⟨t, a1, by rw [M1 t a1]; exact a2, a3⟩ q
        · exact M2 s (by omega) c w
      refine fy_h_calm (b := 0) (by omega) (by omega) (fun a => br_f (by decide) (fy_h_alive (b := 0) (by omega) (by omega) (fun b => br_f (by decide) (nm_r (nI_1 i) (skip (Or.inr (Or.inl b))))) (fun b => br_t rfl ?_))) (fun a => br_t rfl (nm_r (nI_1 i) (skip (Or.inl (fun w => ?_)))))
      · have c := (hC i hi).mp a
        refine pk_loop (fun n'' t y => wY_come_50 post (wY_come_2 post (nI (fc_N sz)) n) (wY_come_10 post (wY_come_2 post (nI (fc_N sz)) n) (nI (fc_N sz)) n') (nI (fc_N sz)) x (nI i) kn te fl yk yl sz th fa ef go gu ye yd wa bl yc tr fd ys n'' y (nI t)) (fun t y => (y = 0 ∧ ∀ t', t' < t → ¬ (fl_h bl 0 t' = true ∧ fc_st sz tk ln an i t')) ∨ (y = 1 ∧ ∃ t', t' < t ∧ fl_h bl 0 t' = true ∧ fc_st sz tk ln an i t')) (fc_N sz) 0 0 (by omega) (Or.inl ⟨rfl, fun t' h => absurd h (by omega)⟩) (fun n'' y Q => ?_) (fun n'' t y ht Q k3 => ?_)
        · refine pk_le (fc_N sz) (fc_N sz) (fun _ => ?_) (fun z => absurd z (by omega))
          rcases Q with ⟨rfl, Q⟩ | ⟨rfl, t, ht, q1, q2⟩
          · refine br_t rfl (nm_r (e' := x) (by rcases L3 with ⟨rfl, _⟩ | ⟨rfl, _⟩ <;> decide) (nm_r (nI_1 i) (skip (Or.inr (Or.inr (fun ⟨t, a1, a2⟩ => Q t a1 a2))))))
          · refine br_f (by decide) (fy_p_alive (b := 0) (by omega) (by omega) (nm_r (e' := 1) (by rcases L3 with ⟨rfl, _⟩ | ⟨rfl, _⟩ <;> decide) (nm_r (nI_1 i) (k2 (1, fl_put bl 0 i) ⟨fun s hs q => ?_, fun s hs q => ?_, Or.inr ⟨rfl, i, hi, ?_, ?_⟩⟩))))
            · show fl_h (fl_put bl 0 i) 0 s = true
              rw [fl_hs bl (by omega) (by omega) (by omega) (by omega), L1 s hs q]; rfl
            · have q : fl_h (fl_put bl 0 i) 0 s = true := q
              rw [fl_hs bl (by omega) (by omega) (by omega) (by omega), Bool.or_eq_true, decide_eq_true_iff] at q
              rcases q with q | ⟨_, q⟩
              · exact L2 s hs q
              · subst q
                exact fw_c1 hi ht c q2 (L2 t ht q1)
            · show fl_h (fl_put bl 0 i) 0 i = true
              rw [fl_hs bl (by omega) (by omega) (by omega) (by omega), decide_eq_true ⟨rfl, rfl⟩, Bool.or_true]
            · cases w : fl_h al 0 i
              · rfl
              · rw [L1 i hi w] at b; cases b
        · refine pk_le (fc_N sz) t (fun z => absurd z (by omega)) (fun _ => ?_)
          have no : ¬ (fl_h bl 0 t = true ∧ fc_st sz tk ln an i t) → wY_come_50 post (wY_come_2 post (nI (fc_N sz)) n) (wY_come_10 post (wY_come_2 post (nI (fc_N sz)) n) (nI (fc_N sz)) n') (nI (fc_N sz)) x (nI i) kn te fl yk yl sz th fa ef go gu ye yd wa bl yc tr fd ys n'' (y ||| 0) (nI (t + 1)) := by
            intro h
            refine k3 _ ?_
            rcases Q with ⟨rfl, Q⟩ | ⟨rfl, t', ht', Q⟩
            · refine Or.inl ⟨by decide, fun t' ht' => ?_⟩
              by_cases q : t' = t
              · rw [q]; exact h
              · exact Q t' (by omega)
            · exact Or.inr ⟨by decide, t', by omega, Q⟩
          refine fy_h_alive (b := 0) (by omega) (by omega) (fun q => br_f (by decide) (fy_sp hz Y G hi ht (fun w => br_f (by decide) (nm_e (nm_r (nI_1 t) (k3 _ (Or.inr ⟨by rcases Q with ⟨rfl, _⟩ | ⟨rfl, _⟩ <;> decide, t, by omega, q, w⟩))))) (fun w => br_t rfl (nm_e (nm_r (nI_1 t) (no (fun z => w z.2))))))) (fun q => br_t rfl (nm_e (nm_r (nI_1 t) (no (fun z => ?_)))))
          rw [q] at z; exact absurd z.1 (by decide)
      · rw [(hC i hi).mpr w] at a; cases a
/-! a round -/
theorem fy_ro {post : Int32 → SY → Prop} {J : Int32 → Int32 → Int32 → Int32 → (Nat → Int32) → (Nat → Int32) → (Nat → Int32) → (Nat → Int32) → (Nat → Int32) → (Nat → Int32) → (Nat → Int64) → (Nat → Int32) → (Nat → Int32) → (Nat → Int32) → (Nat → Int64) → (Nat → Int64) → (Nat → Int64) → (Nat → Int32) → (Nat → Int32) → (Nat → Int32) → Prop} {A : Nat → Prop} (hz : fc_Z sz) (Y : fy_S tk ln an yk yl th ef) (G : fy_G sz tk ln an go) (Fa : fr_f fa) (hE : ∀ s, s < fc_N sz → fb_4 (ye s) (fun a => fc_en sz tk ln an a s)) (hA : ∀ s, s < fc_N sz → (fl_h al 0 s = true ↔ A s))
    (hR : ∀ s t, s < fc_N sz → t < fc_N sz → (fl_h wa (2 * s) t = true ↔ fw_W (fc_N sz) (fc_st sz tk ln an) A (fc_N sz) s t))
    (hp : ∀ al' r, (∀ s, s < fc_N sz → (fl_h al' 0 s = true ↔ fw_nx (fc_N sz) (fc_st sz tk ln an) (fc_M sz tk ln an) (fc_en sz tk ln an) (ff_t ln fa) A s)) → ((r = 0 ∧ ∀ s, s < fc_N sz → A s → ¬ fw_un (fc_N sz) (fc_st sz tk ln an) (fc_M sz tk ln an) (fc_en sz tk ln an) (ff_t ln fa) A s) ∨ (r = 1 ∧ ∃ s, s < fc_N sz ∧ A s ∧ fw_un (fc_N sz) (fc_st sz tk ln an) (fc_M sz tk ln an) (fc_en sz tk ln an) (ff_t ln fa) A s)) → J r kn te fl yk yl sz th fa ef go gu ye yd wa al' yc tr fd ys) : ∃ n, wY_fails_108 post J (nI (fc_N sz)) kn te fl n 0 0 yk yl sz th fa ef go gu ye yd wa al yc tr fd ys := by
  have hN := fc_N1 hz
  generalize hU : fw_un (fc_N sz) (fc_st sz tk ln an) (fc_M sz tk ln an) (fc_en sz tk ln an) (ff_t ln fa) A = U at hp
  refine pk_loop (fun n i (p : Int32 × (Nat → Int64)) => wY_fails_108 post J (nI (fc_N sz)) kn te fl n p.1 (nI i) yk yl sz th fa ef go gu ye yd wa p.2 yc tr fd ys) (fun i p => (∀ s, s < 128 → s < fc_N sz → (fl_h p.2 0 s = true ↔ (A s ∧ ¬ (s < i ∧ U s)))) ∧ ((p.1 = 0 ∧ ∀ s, s < i → A s → ¬ U s) ∨ (p.1 = 1 ∧ ∃ s, s < i ∧ A s ∧ U s))) (fc_N sz) 0 (0, al) (by omega) ⟨fun s _ hs => ?_, Or.inl ⟨rfl, fun s hs => absurd hs (by omega)⟩⟩ (fun n p I => ?_) (fun n i p hi I k => ?_)
  · exact (hA s hs).trans ⟨fun q => ⟨q, fun w => absurd w.1 (by omega)⟩, fun q => q.1⟩
  · obtain ⟨x, al⟩ := p
    obtain ⟨I1, I2⟩ := I
    refine pk_le (fc_N sz) (fc_N sz) (fun _ => hp al x (fun s hs => ?_) I2) (fun z => absurd z (by omega))
    unfold fw_nx
    rw [hU]
    exact (I1 s (by omega) hs).trans ⟨fun q => ⟨q.1, fun w => q.2 ⟨hs, w⟩⟩, fun q => ⟨q.1, fun w => q.2 w.2⟩⟩
  · obtain ⟨x, al⟩ := p
    obtain ⟨I1, I2⟩ := I
    have I1 : ∀ s, s < 128 → s < fc_N sz → (fl_h al 0 s = true ↔ (A s ∧ ¬ (s < i ∧ U s))) := I1
    have I2 : (x = 0 ∧ ∀ s, s < i → A s → ¬ U s) ∨ (x = 1 ∧ ∃ s, s < i ∧ A s ∧ U s) := I2
    refine pk_le (fc_N sz) i (fun z => absurd z (by omega)) (fun _ => ?_)
    have stay : ¬ (A i ∧ U i) → wY_fails_108 post J (nI (fc_N sz)) kn te fl n x (nI (i + 1)) yk yl sz th fa ef go gu ye yd wa al yc tr fd ys := by
      intro q
      refine k (x, al) ⟨fun s h128 hs => ?_, ?_⟩
      · refine (I1 s h128 hs).trans ⟨fun w => ⟨w.1, fun z => ?_⟩, fun w => ⟨w.1, fun z => w.2 ⟨by omega, z.2⟩⟩⟩
        by_cases e : s = i
        · subst e; exact q ⟨w.1, z.2⟩
        · exact w.2 ⟨by omega, z.2⟩
      · rcases I2 with ⟨e, w⟩ | ⟨e, s, hs, w⟩
        · refine Or.inl ⟨e, fun s hs a u => ?_⟩
          by_cases ee : s = i
          · subst ee; exact q ⟨a, u⟩
          · exact w s (by omega) a u
        · exact Or.inr ⟨e, s, by omega, w⟩
    refine fy_h_alive (b := 0) (by omega) (by omega) (fun a => br_f (by decide) ?_) (fun a => br_t rfl (nm_r (nI_1 i) (stay (fun w => ?_))))
    · have ai := ((I1 i (by omega) hi).mp a).1
      refine fy_uf hz Y G Fa hE hR hi (fun u => br_f (by decide) ?_) (fun u => br_t rfl (nm_r (nI_1 i) (stay (fun w => u (by rw [hU]; exact w.2)))))
      rw [hU] at u
      have e64 : nI i / 64 = nI (i / 64) := pk_div (d := 64) (by omega) (by omega) (by omega)
      rw [fl_r (by omega), e64, nI_clamp (by omega)]
      refine ⟨fl_64, vp_in_nI (by omega) (by omega), fl_64, vp_in_nI (by omega) (by omega), nm_e (nm_r (nI_1 i) (k (1, fl_del al i) ⟨fun s h128 hs => ?_, Or.inr ⟨rfl, i, by omega, ai, u⟩⟩))⟩
      show fl_h (fl_del al i) 0 s = true ↔ _
      rw [fl_hc al (by omega) h128, Bool.and_eq_true, I1 s h128 hs, Bool.not_eq_true', decide_eq_false_iff_not]
      constructor
      · rintro ⟨⟨w1, w2⟩, w3⟩
        exact ⟨w1, fun z => w2 ⟨by omega, z.2⟩⟩
      · rintro ⟨w1, w2⟩
        exact ⟨⟨w1, fun z => w2 ⟨by omega, z.2⟩⟩, fun e => w2 ⟨by omega, by rw [e]; exact u⟩⟩
    · rw [(I1 i (by omega) hi).mpr ⟨w.1, fun z => absurd z.1 (by omega)⟩] at a; cases a
theorem fl_cp (a b : Nat → Int64) {t : Nat} (ht : t < 128) : fl_h (vp_updL (vp_updL a 0 (b 0)) 1 (b 1)) 0 t = fl_h b 0 t := by
  unfold fl_h
  rw [Nat.zero_add]
  rcases (show t / 64 = 0 ∨ t / 64 = 1 by omega) with e | e
  · rw [e, pk_uLn (by omega), pk_uLs]
  · rw [e, pk_uLs]
theorem fy_fa {post : Int32 → SY → Prop} (S : fx_S sz tk ln) (Y : fy_S tk ln an yk yl th ef) (K : fy_K sz tk ln an go gu ye yd) (Fa : fr_f fa) (ok : fc_ok tk ln 0) (hyc : ∀ t, t < 128 → fl_h yc 0 t = false)
    (hp : ∀ ys' yc' al' wa' fd', fq_f (ff_Q sz tk ln an fa) (fc_N sz) fd' → post (nI (fg_cn (ff_Q sz tk ln an fa) (fc_N sz))) (kn, te, nI (fg_cn (ff_Q sz tk ln an fa) (fc_N sz)), yk, yl, sz, th, fa, ef, go, gu, ye, yd, wa', al', yc', tr, fd', ys')) : ∃ n, wY_fails_30 post (nI (fc_N sz)) n 0 kn te fl yk yl sz th fa ef go gu ye yd wa al yc tr fd ys := by
  have hz := S.1
  have hN := fc_N1 hz
  have sm0 := Y.1 0 (by omega)
  have oky : fc_ok yk yl 0 := fc_sm_ok sm0 ok
  refine pk_loop (fun n i (p : (Nat → Int32) × (Nat → Int64)) => wY_fails_30 post (nI (fc_N sz)) n (nI i) kn te fl yk yl sz th fa ef go gu ye yd wa al p.2 tr fd p.1) (fun i p => ∀ s, s < 128 → (fl_h p.2 0 s = true ↔ (s < i ∧ ff_C sz tk ln an s))) (fc_N sz) 0 (ys, yc) (by omega) (fun s hs => ?_) (fun n p I => ?_) (fun n i p hi I k => ?_)
  · show fl_h yc 0 s = true ↔ _
    rw [hyc s hs]
    exact ⟨fun z => absurd z (by decide), fun z => absurd z.1 (by omega)⟩
  · obtain ⟨ys, yc⟩ := p
    have I : ∀ s, s < 128 → (fl_h yc 0 s = true ↔ (s < fc_N sz ∧ ff_C sz tk ln an s)) := I
    have hC : ∀ s, s < fc_N sz → (fl_h yc 0 s = true ↔ ff_C sz tk ln an s) := fun s hs => (I s (by omega)).trans ⟨fun q => q.2, fun q => ⟨hs, q⟩⟩
    refine pk_le (fc_N sz) (fc_N sz) (fun _ => nm_e (nm_e ?_)) (fun z => absurd z (by omega))
    refine loop_m (fun n (p : Int32 × Nat × (Nat → Int64) × (Nat → Int64)) => wY_fails_95 post (nI (fc_N sz)) n p.1 kn te fl yk yl sz th fa ef go gu ye yd p.2.2.2 p.2.2.1 yc tr fd ys)
      (fun p => (p.1 = 0 ∧ ∀ s, s < fc_N sz → (fl_h p.2.2.1 0 s = true ↔ ff_F sz tk ln an fa s)) ∨ (p.1 = 1 ∧ (∀ s, s < fc_N sz → (fl_h p.2.2.1 0 s = true ↔ ff_it sz tk ln an fa p.2.1 s)) ∧ fg_cn (ff_it sz tk ln an fa p.2.1) (fc_N sz) + p.2.1 ≤ fc_N sz))
      (fun p => if p.1 = 0 then 0 else fc_N sz + 2 - p.2.1) (fun n p J k => ?_) (1, 0, _, wa) (Or.inr ⟨rfl, fun s hs => ?_, fg_cn_le _ _⟩)
    · obtain ⟨x, j, al, wa⟩ := p
      rcases J with ⟨e, J⟩ | ⟨e, J1, J2⟩
      · have e : x = 0 := e
        subst e
        have J : ∀ s, s < fc_N sz → (fl_h al 0 s = true ↔ ff_F sz tk ln an fa s) := J
        refine br_t rfl (fy_co (C := ff_C sz tk ln an) (F := ff_F sz tk ln an fa) hz Y K.1 (fun s q => q.1) (fun s q => fw_its _ s q) hC J (fun al' hal => ?_))
        refine pk_loop (fun n i (p : Int32 × (Nat → Int32) × (Nat → Int32)) => wY_fails_183 post (nI (fc_N sz)) n (nI i) kn te p.1 yk yl sz th fa ef go gu ye yd wa al' yc tr p.2.2 p.2.1) (fun i p => p.1 = nI (fg_cn (ff_Q sz tk ln an fa) i) ∧ fq_f (ff_Q sz tk ln an fa) i p.2.2) (fc_N sz) 0 (0, ys, fd) (by omega) ⟨rfl, fun s hs => absurd hs (by omega)⟩ (fun n p L => ?_) (fun n i p hi L k2 => ?_)
        · obtain ⟨x, ys, fd⟩ := p
          obtain ⟨L1, L2⟩ := L
          have L1 : x = _ := L1
          subst L1
          exact pk_le (fc_N sz) (fc_N sz) (fun _ => hp ys yc al' wa fd L2) (fun z => absurd z (by omega))
        · obtain ⟨x, ys, fd⟩ := p
          obtain ⟨L1, L2⟩ := L
          have L1 : x = _ := L1
          subst L1
          have L2 : fq_f (ff_Q sz tk ln an fa) i fd := L2
          have hcn := fg_cn_le (ff_Q sz tk ln an fa) i
          refine pk_le (fc_N sz) i (fun z => absurd z (by omega)) (fun _ => ?_)
          obtain ⟨h1, h2, h3⟩ := S.2.2 2 (by omega) (by omega)
          have sm2 := Y.1 2 (by omega)
          have sl := fs_L sm2
          have etr : fc_tr sz yk yl 2 i = fc_tr sz tk ln 2 i := by unfold fc_tr; rw [sl, fc_sm_w sm2]
          have skip : ∀ ys', ¬ ff_Q sz tk ln an fa i → wY_fails_183 post (nI (fc_N sz)) n (nI (i + 1)) kn te (nI (fg_cn (ff_Q sz tk ln an fa) i)) yk yl sz th fa ef go gu ye yd wa al' yc tr fd ys' := by
            intro ys' q
            refine k2 (_, ys', fd) ⟨?_, fq_ff L2 q⟩
            rw [fg_cn_f q]; rfl
          refine fy_h_alive (b := 0) (by omega) (by omega) (fun a => br_f (by decide) ?_) (fun a => br_t rfl (nm_r (nI_1 i) (skip ys (fun w => ?_))))
          · refine fy_is hz (j := 2) (by omega) hi (by rw [sl]; exact h3.imp id (fc_sm_ok sm2)) (by rw [sl, sm2.1]; exact h1) (by omega) (fun ys' => ?_)
            rw [etr]
            by_cases e : fc_tr sz tk ln 2 i = true
            · rw [if_pos e]
              have p : ff_Q sz tk ln an fa i := ⟨(hal i hi).mp a, e⟩
              refine br_f (by decide) ?_
              rw [nI_clamp (by omega), nI_1]
              refine ⟨vp_in_nI (by omega) (by omega), nm_e (nm_e (nm_r (nI_1 i) (k2 (_, ys', _) ⟨?_, fq_ft L2 p⟩)))⟩
              rw [fg_cn_t p]; rfl
            · rw [if_neg e]
              exact br_t rfl (nm_r (nI_1 i) (skip ys' (fun w => e w.2)))
          · rw [(hal i hi).mpr w.1] at a; cases a
      · have e : x = 1 := e
        subst e
        have J1 : ∀ s, s < fc_N sz → (fl_h al 0 s = true ↔ ff_it sz tk ln an fa j s) := J1
        have J2 : fg_cn (ff_it sz tk ln an fa j) (fc_N sz) + j ≤ fc_N sz := J2
        refine br_f (show ¬ (1 : Int32) = 0 by decide) (fy_c2 hz Y K.1 J1 (fun wa' hR => ?_))
        refine fy_ro hz Y K.1 Fa (fun s hs => (K.2.1 s hs).2) J1 hR (fun al' r hr hq => ?_)
        rcases hq with ⟨rfl, hq⟩ | ⟨rfl, hq⟩
        · refine k (0, j + 1, al', wa') (Or.inl ⟨rfl, ?_⟩) ?_
          · have := ff_no J2 hq
            show ∀ s, s < fc_N sz → (fl_h al' 0 s = true ↔ ff_F sz tk ln an fa s)
            rw [← this]; exact hr
          · show 0 < fc_N sz + 2 - j
            omega
        · refine k (1, j + 1, al', wa') (Or.inr ⟨rfl, hr, ff_ro J2 hq⟩) ?_
          show fc_N sz + 2 - (j + 1) < fc_N sz + 2 - j
          omega
    · show fl_h (vp_updL (vp_updL al 0 (yc 0)) 1 (yc 1)) 0 s = true ↔ _
      rw [fl_cp al yc (by omega)]; exact hC s hs
  · obtain ⟨ys, yc⟩ := p
    have I : ∀ s, s < 128 → (fl_h yc 0 s = true ↔ (s < i ∧ ff_C sz tk ln an s)) := I
    refine pk_le (fc_N sz) i (fun z => absurd z (by omega)) (fun _ => ?_)
    rw [nI_clamp (n := i) (by omega)]
    have hr := ff_r (by omega) K.2.2 hi
    have skip : ∀ ys', ¬ ff_C sz tk ln an i → wY_fails_30 post (nI (fc_N sz)) n (nI (i + 1)) kn te fl yk yl sz th fa ef go gu ye yd wa al yc tr fd ys' := by
      intro ys' q
      refine k (ys', yc) (fun s hs => (I s hs).trans ⟨fun w => ⟨by omega, w.2⟩, fun w => ⟨?_, w.2⟩⟩)
      by_cases e : s = i
      · subst e; exact absurd w.2 q
      · omega
    refine ⟨vp_in_nI (by omega) (by omega), br_c (fun d => nm_r (nI_1 i) (skip ys (fun w => hr.mpr w.2.1 d))) (fun d => ?_)⟩
    refine fy_wk (j := 0) hz (by omega) hi oky (fun ys' => ?_)
    rw [fc_sm_w sm0]
    refine br_c (fun b => fy_p_calm (b := 0) (by omega) (by omega) (nm_r (nI_1 i) (k (ys', fl_put yc 0 i) (fun s hs => ?_)))) (fun b => nm_r (nI_1 i) (skip ys' (fun w => b w.2.2)))
    show fl_h (fl_put yc 0 i) 0 s = true ↔ _
    rw [fl_hs yc (by omega) (by omega) (by omega) hs, Bool.or_eq_true, decide_eq_true_iff, I s hs]
    constructor
    · rintro (w | ⟨_, rfl⟩)
      · exact ⟨by omega, w.2⟩
      · exact ⟨by omega, hi, hr.mp d, b⟩
    · intro w
      by_cases e : s = i
      · exact Or.inr ⟨rfl, e⟩
      · exact Or.inl ⟨by omega, w.2⟩
end FYF
section FVF
theorem i_vc_fails {k : Nat} {u : SX} {v : SY} (I : i_Rel k u v) (hk : k + 4 ≤ 2048) : wpX_fails (fun r u' => wpY_fails (fun r' v' => r' = r ∧ i_Rel (k + 4) u' v') v) u := by
  obtain ⟨tl, fc, sz, tk, ln, an, fa, sk, lw, hg, mv, en, dp, ca, rc, re, ho, ae, ta, ow, ts, fs⟩ := u
  obtain ⟨kn, te, fl, yk, yl, vs, th, yf, ef, go, gu, ye, yd, wa, al, yc, tr, fd, ys⟩ := v
  have I : i_Rel (k + 4) (tl, fc, sz, tk, ln, an, fa, sk, lw, hg, mv, en, dp, ca, rc, re, ho, ae, ta, ow, ts, fs) (kn, te, fl, yk, yl, vs, th, yf, ef, go, gu, ye, yd, wa, al, yc, tr, fd, ys) := I
  obtain ⟨rfl, rfl, S, Y, Fa, K, T, F⟩ := id I
  have hz := S.1
  have hN := fc_N1 hz
  have sm0 := Y.1 0 (by omega)
  have hy := fc_sm_sh sm0 S.2.1
  unfold wpX_fails
  refine fx_di S.2.1 (fun hf => br_f (by decide) ?_) (fun hf => br_t rfl ?_)
  · have ok : fc_ok tk ln 0 := ⟨S.2.1, hf⟩
    refine fx_ex S (fun sk' lw' hg' mv' en' dp' XX => fx_ns hz (fx_fa S XX Fa ok (fun sk2 ca2 rc2 re2 ho2 ae2 ta2 fs2 hq => ?_)))
    unfold wpY_fails
    refine fy_ie hy (fun _ => br_f (by decide) (fy_kn S Y K (fun go' gu' ye' yd' ys' KK => fy_ns hz (fy_cc (fun yc' hyc => fy_fa S Y KK Fa ok hyc (fun ys2 yc2 al2 wa2 fd2 hq2 => ?_)))))) (fun q => absurd ((fs_exq sm0).mpr hf) q)
    refine ⟨rfl, rfl, rfl, S, Y, Fa, Or.inr ⟨rfl, KK⟩, T, fg_cn (ff_Q sz tk ln an fa) (fc_N sz), ?_, rfl, rfl, fq_fe hq hq2⟩
    have := fg_cn_le (ff_Q sz tk ln an fa) (fc_N sz)
    omega
  · unfold wpY_fails
    exact fy_ie hy (fun q => absurd ((fs_exq sm0).mp q) hf) (fun _ => br_t rfl ⟨rfl, I⟩)
end FVF
end
