section FEXP
/-! expressions: codes, values -/
def fc_a (c : Nat) : Nat := if c < 20 then 0 else if c = 27 then 1 else if c = 28 then 3 else 2
def fc_bin (c : Nat) (x y : Int32) : Int32 :=
  if c = 20 then x + y else if c = 21 then x - y else if c = 22 then x * y else if c = 23 then (if x = y then 1 else 0)
  else if c = 24 then (if y ≤ x then 0 else 1) else if c = 25 then (if x = 0 then 0 else if y = 0 then 0 else 1)
  else (if x = 0 then (if y = 0 then 0 else 1) else 1)
def fc_u (l : List Int32) : List Int32 := match l with | x :: r => (if x = 0 then 1 else 0) :: r | [] => []
def fc_t (l : List Int32) : List Int32 := match l with | x :: y :: z :: r => (if x = 0 then z else y) :: r | _ => []
def fc_d (c : Nat) (l : List Int32) : List Int32 := match l with | x :: y :: r => fc_bin c x y :: r | _ => []
def fc_op (c : Nat) (vl : Nat → Int32) (l : List Int32) : List Int32 :=
  if c < 10 then nI c :: l else if c < 20 then vl (c - 10) :: l else if c = 27 then fc_u l else if c = 28 then fc_t l else fc_d c l
def fc_run (T : Nat → Nat) (vl : Nat → Int32) : Nat → List Int32 → Int32
  | 0, l => l.headD 0
  | i + 1, l => fc_run T vl i (fc_op (T i) vl l)
theorem fc_run_cg {T U : Nat → Nat} {vl : Nat → Int32} : ∀ (n : Nat) (l : List Int32), (∀ i, i < n → T i = U i) → fc_run T vl n l = fc_run U vl n l := by
  intro n
  induction n with
  | zero => intro l _; rfl
  | succ n ih =>
    intro l h
    show fc_run T vl n (fc_op (T n) vl l) = fc_run U vl n (fc_op (U n) vl l)
    rw [h n (by omega)]
    exact ih _ (fun i hi => h i (by omega))
def fc_SK (st : Nat → Int32) : List Int32 → Prop
  | [] => True
  | x :: l => st l.length = x ∧ fc_SK st l
theorem fc_SKu {st : Nat → Int32} {k : Nat} {x : Int32} : ∀ l : List Int32, l.length ≤ k → fc_SK st l → fc_SK (upd st k x) l := by
  intro l
  induction l with
  | nil => intro _ _; trivial
  | cons y l ih =>
    intro h hs
    have hl : (y :: l).length = l.length + 1 := rfl
    exact ⟨(pk_un (by omega)).trans hs.1, ih (by omega) hs.2⟩
theorem fc_SKc {st : Nat → Int32} {x : Int32} {l : List Int32} (h : fc_SK st l) : fc_SK (upd st l.length x) (x :: l) :=
  ⟨pk_us, fc_SKu l (Nat.le_refl _) h⟩
/-! what is missing ahead of token i -/
def fc_ms (T : Nat → Nat) : Nat → Nat
  | 0 => 1
  | i + 1 => fc_ms T i + fc_a (T i) - 1
def fc_ex (T : Nat → Nat) (n : Nat) : Prop := (∀ i, i < n → 0 < fc_ms T i) ∧ fc_ms T n = 0
theorem fc_ms_cg {T U : Nat → Nat} : ∀ n : Nat, (∀ i, i < n → T i = U i) → fc_ms T n = fc_ms U n := by
  intro n
  induction n with
  | zero => intro _; rfl
  | succ n ih =>
    intro h
    show fc_ms T n + fc_a (T n) - 1 = fc_ms U n + fc_a (U n) - 1
    rw [ih (fun i hi => h i (by omega)), h n (by omega)]
theorem fc_ex_cg {T U : Nat → Nat} {n : Nat} (h : ∀ i, i < n → T i = U i) (e : fc_ex T n) : fc_ex U n := by
  refine ⟨fun i hi => ?_, ?_⟩
  · rw [← fc_ms_cg i (fun j hj => h j (by omega))]; exact e.1 i hi
  · rw [← fc_ms_cg n h]; exact e.2
theorem fc_a3 (c : Nat) : fc_a c ≤ 3 := by
  unfold fc_a; split
  · omega
  · split
    · omega
    · split <;> omega
theorem fc_ms_up (T : Nat → Nat) : ∀ i, fc_ms T i ≤ 1 + 2 * i := by
  intro i
  induction i with
  | zero => exact Nat.le_refl _
  | succ i ih =>
    show fc_ms T i + fc_a (T i) - 1 ≤ _
    have := fc_a3 (T i)
    omega
theorem fc_ms_dn {T : Nat → Nat} {n : Nat} (e : fc_ex T n) : ∀ d i, i + d = n → fc_ms T i ≤ d := by
  intro d
  induction d with
  | zero => intro i hi; rw [show i = n by omega, e.2]; exact Nat.le_refl _
  | succ d ih =>
    intro i hi
    have h1 := ih (i + 1) (by omega)
    have h2 : fc_ms T (i + 1) = fc_ms T i + fc_a (T i) - 1 := rfl
    have h3 := e.1 i (by omega)
    omega
theorem fc_ex0 {T : Nat → Nat} (e : fc_ex T 0) : False := by
  have : fc_ms T 0 = 1 := rfl
  rw [e.2] at this
  omega
def fc_nc (c : Nat) : Prop := c ≤ 4 ∨ (10 ≤ c ∧ c ≤ 12) ∨ (20 ≤ c ∧ c ≤ 28)
def fc_nm (t : Int32) : Prop := ∃ c : Nat, t = nI c ∧ fc_nc c
theorem fc_nmc {t : Int32} (h : fc_nm t) : t = nI t.toNatClampNeg ∧ fc_nc t.toNatClampNeg := by
  obtain ⟨c, rfl, hc⟩ := h
  have h2 := hc
  unfold fc_nc at h2
  rw [nI_clamp (by omega)]
  exact ⟨rfl, hc⟩
/-! a slot's codes, its validity, its value in a state -/
def fc_T (tk : Nat → Int32) (j : Nat) : Nat → Nat := fun i => (tk (j * 12 + i)).toNatClampNeg
def fc_L (ln : Nat → Int32) (j : Nat) : Nat := (ln j).toNatClampNeg
def fc_sh (tk ln : Nat → Int32) (j : Nat) : Prop := ln j = nI (fc_L ln j) ∧ fc_L ln j ≤ 12 ∧ ∀ i, i < fc_L ln j → fc_nm (tk (j * 12 + i))
def fc_ok (tk ln : Nat → Int32) (j : Nat) : Prop := fc_sh tk ln j ∧ fc_ex (fc_T tk j) (fc_L ln j)
def fc_z (sz : Nat → Int32) (v : Nat) : Nat := (sz v).toNatClampNeg
def fc_Z (sz : Nat → Int32) : Prop := ∀ v, v < 3 → sz v = nI (fc_z sz v) ∧ 1 ≤ fc_z sz v ∧ fc_z sz v ≤ 5
def fc_N (sz : Nat → Int32) : Nat := fc_z sz 0 * fc_z sz 1 * fc_z sz 2
def fc_v (sz : Nat → Int32) (s v : Nat) : Nat := if v = 0 then s % fc_z sz 0 else if v = 1 then s / fc_z sz 0 % fc_z sz 1 else s / fc_z sz 0 / fc_z sz 1 % fc_z sz 2
def fc_w (sz tk ln : Nat → Int32) (j s : Nat) : Int32 := fc_run (fc_T tk j) (fun v => nI (fc_v sz s v)) (fc_L ln j) []
/-- slot j of one side holds what slot k of the other holds -/
def fc_sm (tk ln : Nat → Int32) (j : Nat) (yk yl : Nat → Int32) (k : Nat) : Prop := yl k = ln j ∧ ∀ i, i < fc_L ln j → yk (k * 12 + i) = tk (j * 12 + i)
theorem fc_sm_T {tk ln yk yl : Nat → Int32} {j k : Nat} (h : fc_sm tk ln j yk yl k) : fc_L yl k = fc_L ln j ∧ ∀ i, i < fc_L ln j → fc_T yk k i = fc_T tk j i := by
  refine ⟨?_, fun i hi => ?_⟩
  · unfold fc_L; rw [h.1]
  · unfold fc_T; rw [h.2 i hi]
theorem fc_sm_sh {tk ln yk yl : Nat → Int32} {j k : Nat} (h : fc_sm tk ln j yk yl k) (o : fc_sh tk ln j) : fc_sh yk yl k := by
  obtain ⟨a, b⟩ := fc_sm_T h
  refine ⟨?_, by rw [a]; exact o.2.1, fun i hi => ?_⟩
  · rw [a, h.1]; exact o.1
  · rw [a] at hi
    rw [h.2 i hi]; exact o.2.2 i hi
theorem fc_sm_ok {tk ln yk yl : Nat → Int32} {j k : Nat} (h : fc_sm tk ln j yk yl k) (o : fc_ok tk ln j) : fc_ok yk yl k := by
  obtain ⟨a, b⟩ := fc_sm_T h
  refine ⟨fc_sm_sh h o.1, ?_⟩
  rw [a]
  exact fc_ex_cg (fun i hi => (b i hi).symm) o.2
theorem fc_sm_w {tk ln yk yl : Nat → Int32} {j k : Nat} (h : fc_sm tk ln j yk yl k) (sz : Nat → Int32) (s : Nat) : fc_w sz yk yl k s = fc_w sz tk ln j s := by
  obtain ⟨a, b⟩ := fc_sm_T h
  unfold fc_w
  rw [a]
  exact fc_run_cg _ _ b
theorem fc_N1 {sz : Nat → Int32} (h : fc_Z sz) : 1 ≤ fc_N sz ∧ fc_N sz ≤ 125 := by
  have h0 := h 0 (by omega)
  have h1 := h 1 (by omega)
  have h2 := h 2 (by omega)
  unfold fc_N
  generalize fc_z sz 0 = a at *
  generalize fc_z sz 1 = b at *
  generalize fc_z sz 2 = c at *
  have k1 : 1 * 1 ≤ a * b := Nat.mul_le_mul h0.2.1 h1.2.1
  have k2 : a * b ≤ 5 * 5 := Nat.mul_le_mul h0.2.2 h1.2.2
  have k3 : 1 * 1 ≤ a * b * c := Nat.mul_le_mul (by omega) h2.2.1
  have k4 : a * b * c ≤ 25 * 5 := Nat.mul_le_mul (by omega) h2.2.2
  omega
theorem fc_Nn {sz : Nat → Int32} (h : fc_Z sz) : sz 0 * sz 1 * sz 2 = nI (fc_N sz) := by
  rw [(h 0 (by omega)).1, (h 1 (by omega)).1, (h 2 (by omega)).1, pk_mul, pk_mul]
  rfl
theorem fc_vlt {sz : Nat → Int32} (h : fc_Z sz) (s : Nat) {v : Nat} (hv : v < 3) : fc_v sz s v < fc_z sz v := by
  have h0 := (h 0 (by omega)).2.1
  have h1 := (h 1 (by omega)).2.1
  have h2 := (h 2 (by omega)).2.1
  unfold fc_v
  rcases (show v = 0 ∨ v = 1 ∨ v = 2 by omega) with rfl | rfl | rfl
  · simpa using Nat.mod_lt _ h0
  · simpa using Nat.mod_lt _ h1
  · simpa using Nat.mod_lt _ h2
theorem fc_v2 {sz : Nat → Int32} (h : fc_Z sz) {s : Nat} (hs : s < fc_N sz) : s / fc_z sz 0 / fc_z sz 1 % fc_z sz 2 = s / fc_z sz 0 / fc_z sz 1 := by
  have h0 := (h 0 (by omega)).2.1
  have h1 := (h 1 (by omega)).2.1
  apply Nat.mod_eq_of_lt
  rw [Nat.div_div_eq_div_mul]
  apply Nat.div_lt_of_lt_mul
  exact hs
/-- a state from its values -/
def fc_mk (sz : Nat → Int32) (x y z : Nat) : Nat := x + fc_z sz 0 * (y + fc_z sz 1 * z)
theorem fc_mk_v {sz : Nat → Int32} {x y z : Nat} (hx : x < fc_z sz 0) (hy : y < fc_z sz 1) (hz : z < fc_z sz 2) :
    fc_v sz (fc_mk sz x y z) 0 = x ∧ fc_v sz (fc_mk sz x y z) 1 = y ∧ fc_v sz (fc_mk sz x y z) 2 = z := by
  have e : fc_mk sz x y z / fc_z sz 0 = y + fc_z sz 1 * z := by
    unfold fc_mk
    rw [Nat.add_mul_div_left _ _ (by omega), Nat.div_eq_of_lt hx, Nat.zero_add]
  refine ⟨?_, ?_, ?_⟩
  · show fc_mk sz x y z % fc_z sz 0 = x
    unfold fc_mk
    rw [Nat.add_mul_mod_self_left, Nat.mod_eq_of_lt hx]
  · show fc_mk sz x y z / fc_z sz 0 % fc_z sz 1 = y
    rw [e, Nat.add_mul_mod_self_left, Nat.mod_eq_of_lt hy]
  · show fc_mk sz x y z / fc_z sz 0 / fc_z sz 1 % fc_z sz 2 = z
    rw [e, Nat.add_mul_div_left _ _ (by omega), Nat.div_eq_of_lt hy, Nat.zero_add, Nat.mod_eq_of_lt hz]
theorem fc_v_mk {sz : Nat → Int32} (h : fc_Z sz) {s : Nat} (hs : s < fc_N sz) : fc_mk sz (fc_v sz s 0) (fc_v sz s 1) (fc_v sz s 2) = s := by
  show s % fc_z sz 0 + fc_z sz 0 * (s / fc_z sz 0 % fc_z sz 1 + fc_z sz 1 * (s / fc_z sz 0 / fc_z sz 1 % fc_z sz 2)) = s
  rw [fc_v2 h hs, Nat.mod_add_div, Nat.mod_add_div]
theorem fc_mk_lt {sz : Nat → Int32} {x y z : Nat} (hx : x < fc_z sz 0) (hy : y < fc_z sz 1) (hz : z < fc_z sz 2) : fc_mk sz x y z < fc_N sz := by
  unfold fc_mk fc_N
  generalize fc_z sz 0 = a at *
  generalize fc_z sz 1 = b at *
  generalize fc_z sz 2 = c at *
  have k1 : b * (z + 1) ≤ b * c := Nat.mul_le_mul_left _ hz
  rw [Nat.mul_add] at k1
  have k2 : a * (y + b * z + 1) ≤ a * (b * c) := Nat.mul_le_mul_left _ (by omega)
  rw [Nat.mul_add] at k2
  rw [Nat.mul_assoc]
  omega
/-! where an action leads -/
def fc_rd (w m : Int32) : Int32 := if 0 ≤ w - w / m * m then w - w / m * m else w - w / m * m + m
def fc_g (sz tk ln : Nat → Int32) (a s : Nat) : Bool := decide (fc_L ln (3 + a) ≠ 0) && decide (fc_w sz tk ln (3 + a) s ≠ 0)
def fc_al (sz tk ln an : Nat → Int32) (a v s x : Nat) : Bool :=
  if fc_L ln (7 + (a * 3 + v)) ≠ 0 then decide (nI x = fc_rd (fc_w sz tk ln (7 + (a * 3 + v)) s) (sz v)) else if an (a * 3 + v) = 0 then decide (x = fc_v sz s v) else true
def fc_M (sz tk ln an : Nat → Int32) (a s t : Nat) : Bool :=
  fc_g sz tk ln a s && (fc_al sz tk ln an a 0 s (fc_v sz t 0) && (fc_al sz tk ln an a 1 s (fc_v sz t 1) && fc_al sz tk ln an a 2 s (fc_v sz t 2)))
def fc_tr (sz tk ln : Nat → Int32) (j s : Nat) : Bool := decide (fc_L ln j = 0) || decide (fc_w sz tk ln j s ≠ 0)
theorem fc_rdr (w : Int32) {m : Nat} (h1 : 1 ≤ m) (h5 : m ≤ 5) : ∃ k, k < m ∧ fc_rd w (nI m) = nI k := by
  have e := rem_toInt w (nI m)
  rw [nI_toInt (n := m) (by omega)] at e
  have b := tmod_bounds (a := w.toInt) (M := (m : Int)) (by omega)
  unfold fc_rd
  generalize w - w / nI m * nI m = r at *
  by_cases h : 0 ≤ r
  · rw [if_pos h]
    obtain ⟨k, hk, ek⟩ := nI_of (x := r) (Int32.not_lt.mpr h)
    refine ⟨k, ?_, ek⟩
    rw [ek, nI_toInt hk] at e
    omega
  · rw [if_neg h]
    rw [Int32.le_iff_toInt_le, show (0 : Int32).toInt = 0 from by decide] at h
    refine ⟨(r.toInt + m).toNat, by omega, Int32.toInt_inj.mp ?_⟩
    rw [Int32.toInt_add, nI_toInt (n := m) (by omega), nI_toInt (by omega), Int.bmod_eq_of_le (by omega) (by omega)]
    omega
end FEXP
