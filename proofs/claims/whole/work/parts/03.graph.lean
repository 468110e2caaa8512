section FGR
/-! counting -/
noncomputable def fg_cn (P : Nat → Prop) : Nat → Nat
  | 0 => 0
  | n + 1 => fg_cn P n + @ite _ (P n) (Classical.propDecidable _) 1 0
theorem fg_cn_t {P : Nat → Prop} {n : Nat} (h : P n) : fg_cn P (n + 1) = fg_cn P n + 1 := by
  show _ + @ite _ (P n) (Classical.propDecidable _) 1 0 = _
  rw [if_pos h]
theorem fg_cn_f {P : Nat → Prop} {n : Nat} (h : ¬ P n) : fg_cn P (n + 1) = fg_cn P n := by
  show _ + @ite _ (P n) (Classical.propDecidable _) 1 0 = _
  rw [if_neg h]; rfl
theorem fg_cn_le (P : Nat → Prop) : ∀ n, fg_cn P n ≤ n := by
  intro n
  induction n with
  | zero => exact Nat.le_refl _
  | succ n ih =>
    by_cases h : P n
    · rw [fg_cn_t h]; omega
    · rw [fg_cn_f h]; omega
theorem fg_cn_mo {P Q : Nat → Prop} : ∀ n, (∀ s, s < n → P s → Q s) → fg_cn P n ≤ fg_cn Q n := by
  intro n
  induction n with
  | zero => intro _; exact Nat.le_refl _
  | succ n ih =>
    intro h
    have k := ih (fun s hs => h s (by omega))
    by_cases hp : P n
    · rw [fg_cn_t hp, fg_cn_t (h n (by omega) hp)]; omega
    · rw [fg_cn_f hp]
      by_cases hq : Q n
      · rw [fg_cn_t hq]; omega
      · rw [fg_cn_f hq]; omega
theorem fg_cn_lt {P Q : Nat → Prop} : ∀ n, (∀ s, s < n → P s → Q s) → (∃ s, s < n ∧ Q s ∧ ¬ P s) → fg_cn P n < fg_cn Q n := by
  intro n
  induction n with
  | zero => intro _ ⟨s, hs, _⟩; omega
  | succ n ih =>
    intro h ⟨s, hs, hq, hp⟩
    have h' : ∀ s, s < n → P s → Q s := fun s hs => h s (by omega)
    by_cases e : s = n
    · subst e
      rw [fg_cn_f hp, fg_cn_t hq]
      have := fg_cn_mo s h'
      omega
    · have k := ih h' ⟨s, by omega, hq, hp⟩
      by_cases hp : P n
      · rw [fg_cn_t hp, fg_cn_t (h n (by omega) hp)]; omega
      · rw [fg_cn_f hp]
        by_cases hq : Q n
        · rw [fg_cn_t hq]; omega
        · rw [fg_cn_f hq]; omega
/-! depths -/
def fg_R (N : Nat) (I0 : Nat → Prop) (st : Nat → Nat → Prop) : Nat → Nat → Prop
  | 0, s => s < N ∧ I0 s
  | d + 1, s => fg_R N I0 st d s ∨ (s < N ∧ ∃ s', fg_R N I0 st d s' ∧ st s' s)
def fg_F (N : Nat) (I0 : Nat → Prop) (st : Nat → Nat → Prop) (d s : Nat) : Prop := fg_R N I0 st d s ∧ ∀ e, e < d → ¬ fg_R N I0 st e s
variable {N : Nat} {I0 : Nat → Prop} {st : Nat → Nat → Prop}
theorem fg_Rlt : ∀ {d s : Nat}, fg_R N I0 st d s → s < N := by
  intro d
  induction d with
  | zero => intro s h; exact h.1
  | succ d ih =>
    intro s h
    rcases h with h | h
    · exact ih h
    · exact h.1
theorem fg_Rup {d s : Nat} : ∀ {e : Nat}, d ≤ e → fg_R N I0 st d s → fg_R N I0 st e s := by
  intro e
  induction e with
  | zero => intro h r; rw [show d = 0 by omega] at r; exact r
  | succ e ih =>
    intro h r
    by_cases k : d = e + 1
    · rw [← k]; exact r
    · exact Or.inl (ih (by omega) r)
theorem fg_Fp {d s : Nat} (h : fg_F N I0 st (d + 1) s) : ∃ s', fg_F N I0 st d s' ∧ st s' s := by
  rcases h.1 with r | ⟨hs, s', r, e⟩
  · exact absurd r (h.2 d (by omega))
  · refine ⟨s', ⟨r, fun k hk rk => ?_⟩, e⟩
    have : fg_R N I0 st (k + 1) s := Or.inr ⟨hs, s', rk, e⟩
    exact h.2 d (by omega) (fg_Rup (by omega) this)
theorem fg_Fo {d s : Nat} (h : fg_R N I0 st d s) : ∃ e, e ≤ d ∧ fg_F N I0 st e s := by
  obtain ⟨k, hk, hl⟩ := pk_least (fun e => fg_R N I0 st e s) ⟨d, h⟩
  refine ⟨k, ?_, hk, hl⟩
  rcases Nat.lt_or_ge d k with z | z
  · exact absurd h (hl d z)
  · exact z
theorem fg_Fu {d e s : Nat} (h : fg_F N I0 st d s) (k : fg_F N I0 st e s) : d = e := by
  rcases Nat.lt_trichotomy d e with z | z | z
  · exact absurd h.1 (k.2 d z)
  · exact z
  · exact absurd k.1 (h.2 e z)
theorem fg_Flt {d s : Nat} (h : fg_F N I0 st d s) : s < N := fg_Rlt h.1
theorem fg_Fc : ∀ d s, fg_F N I0 st d s → d + 1 ≤ fg_cn (fg_R N I0 st d) N := by
  intro d
  induction d with
  | zero =>
    intro s h
    have := fg_cn_lt (P := fun _ => False) (Q := fg_R N I0 st 0) N (fun _ _ z => z.elim) ⟨s, fg_Rlt h.1, h.1, fun z => z⟩
    omega
  | succ d ih =>
    intro s h
    obtain ⟨s', h', _⟩ := fg_Fp h
    have k := ih s' h'
    have := fg_cn_lt (P := fg_R N I0 st d) (Q := fg_R N I0 st (d + 1)) N (fun _ _ z => Or.inl z) ⟨s, fg_Rlt h.1, h.1, h.2 d (by omega)⟩
    omega
theorem fg_Fb {d s : Nat} (h : fg_F N I0 st d s) : d < N := by
  have := fg_Fc d s h
  have := fg_cn_le (fg_R N I0 st d) N
  omega
theorem fg_no {d : Nat} (h : ∀ s, ¬ fg_F N I0 st d s) : ∀ k s, ¬ fg_F N I0 st (d + k) s := by
  intro k
  induction k with
  | zero => exact h
  | succ k ih =>
    intro s z
    obtain ⟨s', h', _⟩ := fg_Fp z
    exact ih s' h'
def fg_D (N : Nat) (I0 : Nat → Prop) (st : Nat → Nat → Prop) (dp : Nat → Int32) : Prop :=
  ∀ s, s < N → (∃ d, d < N ∧ dp s = nI d ∧ fg_F N I0 st d s) ∨ (dp s = -1 ∧ ∀ d, ¬ fg_R N I0 st d s)
theorem fg_Du {dp dq : Nat → Int32} (h : fg_D N I0 st dp) (k : fg_D N I0 st dq) {s : Nat} (hs : s < N) : dp s = dq s := by
  rcases h s hs with ⟨d, _, e, f⟩ | ⟨e, f⟩
  · rcases k s hs with ⟨d', _, e', f'⟩ | ⟨e', f'⟩
    · rw [e, e', fg_Fu f f']
    · exact absurd f.1 (f' d)
  · rcases k s hs with ⟨d', _, e', f'⟩ | ⟨e', f'⟩
    · exact absurd f'.1 (f d')
    · rw [e, e']
def fg_I (N : Nat) (I0 : Nat → Prop) (st : Nat → Nat → Prop) (d s0 : Nat) (dp : Nat → Int32) : Prop :=
  ∀ s, s < N → (∃ e, e ≤ d ∧ dp s = nI e ∧ fg_F N I0 st e s) ∨ (dp s = nI (d + 1) ∧ fg_F N I0 st (d + 1) s) ∨ (dp s = -1 ∧ ¬ fg_R N I0 st d s ∧ ∀ s', s' < s0 → fg_F N I0 st d s' → ¬ st s' s)
theorem fg_I0 {dp : Nat → Int32} (h : ∀ s, s < N → (I0 s ∧ dp s = 0) ∨ (¬ I0 s ∧ dp s = -1)) : fg_I N I0 st 0 0 dp := by
  intro s hs
  rcases h s hs with ⟨a, b⟩ | ⟨a, b⟩
  · exact Or.inl ⟨0, Nat.le_refl _, b, ⟨hs, a⟩, fun e he => absurd he (by omega)⟩
  · exact Or.inr (Or.inr ⟨b, fun r => a r.2, fun s' hs' => absurd hs' (by omega)⟩)
theorem fg_Ie {d s0 s : Nat} {dp : Nat → Int32} (hN : N < 2 ^ 30) (hd : d < 2 ^ 30) (h : fg_I N I0 st d s0 dp) (hs : s < N) (e : dp s = nI d) : fg_F N I0 st d s := by
  rcases h s hs with ⟨k, hk, ek, f⟩ | ⟨ek, f⟩ | ⟨ek, f⟩
  · rw [ek, nI_eq (by omega) (by omega)] at e
    rw [← e]; exact f
  · rw [ek, nI_eq (by omega) (by omega)] at e
    omega
  · rw [ek] at e
    exact absurd e.symm (fn_ne1 (by omega))
theorem fg_Ii {d s0 s : Nat} {dp : Nat → Int32} (h : fg_I N I0 st d s0 dp) (f : fg_F N I0 st d s) : dp s = nI d := by
  rcases h s (fg_Flt f) with ⟨k, hk, ek, g⟩ | ⟨ek, g⟩ | ⟨ek, g, _⟩
  · rw [ek, fg_Fu f g]
  · have := fg_Fu f g; omega
  · exact absurd f.1 g
def fg_dn (N : Nat) (st : Nat → Nat → Prop) (d s0 : Nat) (dp dq : Nat → Int32) : Prop :=
  ∀ t, t < N → (dp t = -1 ∧ st s0 t ∧ dq t = nI (d + 1)) ∨ (¬ (dp t = -1 ∧ st s0 t) ∧ dq t = dp t)
theorem fg_st {d s0 : Nat} {dp dq : Nat → Int32} (h : fg_I N I0 st d s0 dp) (f : fg_F N I0 st d s0) (k : fg_dn N st d s0 dp dq) (hd : d < 2 ^ 30) : fg_I N I0 st d (s0 + 1) dq := by
  intro s hs
  rcases k s hs with ⟨a, b, c⟩ | ⟨a, c⟩
  · rcases h s hs with ⟨k, hk, ek, g⟩ | ⟨ek, g⟩ | ⟨ek, g, g'⟩
    · rw [ek] at a; exact absurd a (fn_ne1 (by omega))
    · rw [ek] at a; exact absurd a (fn_ne1 (by omega))
    · refine Or.inr (Or.inl ⟨c, Or.inr ⟨hs, s0, f.1, b⟩, fun e he r => g (fg_Rup (by omega) r)⟩)
  · rcases h s hs with g | g | ⟨ek, g, g'⟩
    · rw [c]; exact Or.inl g
    · rw [c]; exact Or.inr (Or.inl g)
    · rw [c]
      refine Or.inr (Or.inr ⟨ek, g, fun s' hs' f' z => ?_⟩)
      by_cases e : s' = s0
      · subst e; exact a ⟨ek, z⟩
      · exact g' s' (by omega) f' z
theorem fg_sk {d s0 : Nat} {dp : Nat → Int32} (h : fg_I N I0 st d s0 dp) (e : ¬ dp s0 = nI d) : fg_I N I0 st d (s0 + 1) dp := by
  intro s hs
  rcases h s hs with g | g | ⟨ek, g, g'⟩
  · exact Or.inl g
  · exact Or.inr (Or.inl g)
  · refine Or.inr (Or.inr ⟨ek, g, fun s' hs' f' z => ?_⟩)
    by_cases k : s' = s0
    · subst k; exact e (fg_Ii h f')
    · exact g' s' (by omega) f' z
theorem fg_en {d : Nat} {dp : Nat → Int32} (h : fg_I N I0 st d N dp) : fg_I N I0 st (d + 1) 0 dp := by
  intro s hs
  rcases h s hs with ⟨k, hk, ek, g⟩ | ⟨ek, g⟩ | ⟨ek, g, g'⟩
  · exact Or.inl ⟨k, by omega, ek, g⟩
  · exact Or.inl ⟨d + 1, by omega, ek, g⟩
  · refine Or.inr (Or.inr ⟨ek, fun r => ?_, fun s' hs' => absurd hs' (by omega)⟩)
    rcases r with r | ⟨_, s', r, e⟩
    · exact g r
    · obtain ⟨k, hk, f⟩ := fg_Fo r
      by_cases z : k = d
      · subst z; exact g' s' (fg_Flt f) f e
      · have : fg_R N I0 st (k + 1) s := Or.inr ⟨hs, s', f.1, e⟩
        exact g (fg_Rup (by omega) this)
theorem fg_fY {d : Nat} {dp : Nat → Int32} (h : fg_I N I0 st d 0 dp) (no : ∀ s, ¬ fg_F N I0 st (d + 1) s) : fg_D N I0 st dp := by
  intro s hs
  rcases h s hs with ⟨k, hk, ek, g⟩ | ⟨ek, g⟩ | ⟨ek, g, g'⟩
  · exact Or.inl ⟨k, fg_Fb g, ek, g⟩
  · exact absurd g (no s)
  · refine Or.inr ⟨ek, fun e r => ?_⟩
    obtain ⟨k, hk, f⟩ := fg_Fo r
    rcases Nat.lt_or_ge d k with z | z
    · have := fg_no no (k - (d + 1)) s
      rw [show d + 1 + (k - (d + 1)) = k by omega] at this
      exact this f
    · exact g (fg_Rup z f.1)
theorem fg_fX {dp : Nat → Int32} (h : fg_I N I0 st N 0 dp) : fg_D N I0 st dp :=
  fg_fY h (fun s f => by have := fg_Fb f; omega)
theorem fg_Dd {dp : Nat → Int32} (hN : N < 2 ^ 30) (h : fg_D N I0 st dp) {d s : Nat} (hs : s < N) (hd : d < 2 ^ 30) : dp s = nI d ↔ fg_F N I0 st d s := by
  rcases h s hs with ⟨k, hk, ek, g⟩ | ⟨ek, g⟩
  · rw [ek, nI_eq (by omega) (by omega)]
    exact ⟨fun z => z ▸ g, fun z => fg_Fu g z⟩
  · rw [ek]
    exact ⟨fun z => absurd z.symm (fn_ne1 (by omega)), fun z => absurd z.1 (g d)⟩
/-! ways to a breach -/
def fg_w (N : Nat) (I0 : Nat → Prop) (st : Nat → Nat → Prop) (Br : Nat → Prop) (en : Nat) : Nat → Nat → Prop
  | 0, s => fg_F N I0 st en s ∧ Br s
  | j + 1, s => fg_F N I0 st (en - (j + 1)) s ∧ ∃ t, fg_w N I0 st Br en j t ∧ st s t
def fg_A (N : Nat) (I0 : Nat → Prop) (st : Nat → Nat → Prop) (Br : Nat → Prop) (en k s : Nat) : Prop := ∃ j, j + k ≤ en ∧ fg_w N I0 st Br en j s
variable {Br : Nat → Prop} {en : Nat}
theorem fg_wF {j s : Nat} (h : fg_w N I0 st Br en j s) : fg_F N I0 st (en - j) s := by
  cases j with
  | zero => exact h.1
  | succ j => exact h.1
theorem fg_Ae {s : Nat} : fg_A N I0 st Br en en s ↔ fg_F N I0 st en s ∧ Br s := by
  constructor
  · intro ⟨j, hj, h⟩
    rw [show j = 0 by omega] at h
    exact h
  · intro h; exact ⟨0, by omega, h⟩
theorem fg_Ak {k s : Nat} (hk : k < en) (f : fg_F N I0 st k s) : fg_A N I0 st Br en k s ↔ ∃ t, t < N ∧ fg_F N I0 st (k + 1) t ∧ fg_A N I0 st Br en (k + 1) t ∧ st s t := by
  constructor
  · intro ⟨j, hj, h⟩
    have e := fg_Fu (fg_wF h) f
    obtain ⟨i, rfl⟩ : ∃ i, j = i + 1 := ⟨j - 1, by omega⟩
    obtain ⟨_, t, ht, es⟩ := h
    have ft := fg_wF ht
    rw [show en - i = k + 1 by omega] at ft
    exact ⟨t, fg_Flt ft, ft, ⟨i, by omega, ht⟩, es⟩
  · intro ⟨t, _, ft, ⟨j, hj, h⟩, es⟩
    have e := fg_Fu (fg_wF h) ft
    refine ⟨j + 1, by omega, ?_, t, h, es⟩
    rw [show en - (j + 1) = k by omega]
    exact f
theorem fg_An {k s : Nat} (hk : k < en) (f : ¬ fg_F N I0 st k s) : fg_A N I0 st Br en k s ↔ fg_A N I0 st Br en (k + 1) s := by
  constructor
  · intro ⟨j, hj, h⟩
    refine ⟨j, ?_, h⟩
    rcases Nat.lt_or_ge (j + k) en with z | z
    · omega
    · have := fg_wF h
      rw [show en - j = k by omega] at this
      exact absurd this f
  · intro ⟨j, hj, h⟩; exact ⟨j, by omega, h⟩
theorem fg_A0 {k s : Nat} (f : fg_F N I0 st k s) : fg_A N I0 st Br en 0 s ↔ fg_A N I0 st Br en k s := by
  constructor
  · intro ⟨j, hj, h⟩
    have e := fg_Fu (fg_wF h) f
    exact ⟨j, by omega, h⟩
  · intro ⟨j, hj, h⟩; exact ⟨j, by omega, h⟩
theorem fg_wx (h : ∃ s, fg_F N I0 st en s ∧ Br s) : ∀ j, j ≤ en → ∃ s, fg_w N I0 st Br en j s := by
  intro j
  induction j with
  | zero => intro _; exact h
  | succ j ih =>
    intro hj
    obtain ⟨s, hs⟩ := ih (by omega)
    have f := fg_wF hs
    rw [show en - j = (en - (j + 1)) + 1 by omega] at f
    obtain ⟨s', f', e⟩ := fg_Fp f
    exact ⟨s', f', s, hs, e⟩
def fg_ls (P : Nat → Prop) (s : Nat) : Prop := P s ∧ ∀ t, t < s → ¬ P t
theorem fg_lsu {P : Nat → Prop} {s t : Nat} (h : fg_ls P s) (k : fg_ls P t) : s = t := by
  rcases Nat.lt_trichotomy s t with z | z | z
  · exact absurd h.1 (k.2 s z)
  · exact z
  · exact absurd k.1 (h.2 t z)
/-- the first state of a row, and the state behind state s at place k -/
def fg_t0 (N : Nat) (I0 : Nat → Prop) (st : Nat → Nat → Prop) (Br : Nat → Prop) (en s : Nat) : Prop := fg_ls (fun s => fg_F N I0 st 0 s ∧ fg_A N I0 st Br en 0 s) s
def fg_t1 (N : Nat) (I0 : Nat → Prop) (st : Nat → Nat → Prop) (Br : Nat → Prop) (en k s t : Nat) : Prop := fg_ls (fun t => fg_F N I0 st (k + 1) t ∧ fg_A N I0 st Br en 0 t ∧ st s t) t
def fg_tr (N : Nat) (I0 : Nat → Prop) (st : Nat → Nat → Prop) (Br : Nat → Prop) (en : Nat) (T : Nat → Nat) (m : Nat) : Prop := fg_t0 N I0 st Br en (T 0) ∧ ∀ k, k < m → fg_t1 N I0 st Br en k (T k) (T (k + 1))
theorem fg_tu {T U : Nat → Nat} {m : Nat} (h : fg_tr N I0 st Br en T m) (k : fg_tr N I0 st Br en U m) : ∀ i, i ≤ m → T i = U i := by
  intro i
  induction i with
  | zero => intro _; exact fg_lsu h.1 k.1
  | succ i ih =>
    intro hi
    have a := h.2 i (by omega)
    have b := k.2 i (by omega)
    rw [ih (by omega)] at a
    exact fg_lsu a b
end FGR
