section FFA
/-! closure of steps within a set, by stages -/
def fw_W (N : Nat) (st : Nat → Nat → Prop) (A : Nat → Prop) : Nat → Nat → Nat → Prop
  | 0, s, t => s < N ∧ t < N ∧ A s ∧ A t ∧ (s = t ∨ st s t)
  | m + 1, s, t => fw_W N st A m s t ∨ (fw_W N st A m s m ∧ fw_W N st A m m t)
variable {N : Nat} {st : Nat → Nat → Prop} {A : Nat → Prop}
theorem fw_in : ∀ {m s t : Nat}, fw_W N st A m s t → s < N ∧ t < N ∧ A s ∧ A t := by
  intro m
  induction m with
  | zero => intro s t h; exact ⟨h.1, h.2.1, h.2.2.1, h.2.2.2.1⟩
  | succ m ih =>
    intro s t h
    rcases h with h | ⟨h, k⟩
    · exact ih h
    · exact ⟨(ih h).1, (ih k).2.1, (ih h).2.2.1, (ih k).2.2.2⟩
theorem fw_up {s t : Nat} : ∀ {m : Nat}, fw_W N st A 0 s t → fw_W N st A m s t := by
  intro m
  induction m with
  | zero => exact id
  | succ m ih => intro h; exact Or.inl (ih h)
theorem fw_tk : ∀ m k s t, k < m → fw_W N st A m s k → fw_W N st A m k t → fw_W N st A m s t := by
  intro m
  induction m with
  | zero => intro k s t h; omega
  | succ m ih =>
    intro k s t hk a b
    by_cases e : k = m
    · subst e
      have a' : fw_W N st A k s k := by
        rcases a with a | a
        · exact a
        · exact a.1
      have b' : fw_W N st A k k t := by
        rcases b with b | b
        · exact b
        · exact b.2
      exact Or.inr ⟨a', b'⟩
    · have hm : k < m := by omega
      rcases a with a | ⟨a, a'⟩
      · rcases b with b | ⟨b, b'⟩
        · exact Or.inl (ih k s t hm a b)
        · exact Or.inr ⟨ih k s m hm a b, b'⟩
      · rcases b with b | ⟨b, b'⟩
        · exact Or.inr ⟨a, ih k m t hm a' b⟩
        · exact Or.inr ⟨a, b'⟩
theorem fw_tr {s k t : Nat} (a : fw_W N st A N s k) (b : fw_W N st A N k t) : fw_W N st A N s t := fw_tk N k s t (fw_in a).2.1 a b
theorem fw_cl {B : Nat → Prop} (hB : ∀ s t, s < N → A s → A t → st s t → B t → B s) : ∀ m s t, fw_W N st A m s t → B t → B s := by
  intro m
  induction m with
  | zero =>
    intro s t ⟨h1, _, h3, h4, h⟩ b
    rcases h with rfl | h
    · exact b
    · exact hB s t h1 h3 h4 h b
  | succ m ih =>
    intro s t h b
    rcases h with h | ⟨h, k⟩
    · exact ih s t h b
    · exact ih s m h (ih m t k b)
def fw_g (N : Nat) (st : Nat → Nat → Prop) (A : Nat → Prop) (s t : Nat) : Prop := fw_W N st A N s t ∧ fw_W N st A N t s
theorem fw_gr {s : Nat} (hs : s < N) (h : A s) : fw_g N st A s s := ⟨fw_up ⟨hs, hs, h, h, Or.inl rfl⟩, fw_up ⟨hs, hs, h, h, Or.inl rfl⟩⟩
theorem fw_gs {s t : Nat} (h : fw_g N st A s t) : fw_g N st A t s := ⟨h.2, h.1⟩
theorem fw_gt {s t u : Nat} (h : fw_g N st A s t) (k : fw_g N st A t u) : fw_g N st A s u := ⟨fw_tr h.1 k.1, fw_tr k.2 h.2⟩
/-! homes -/
def fw_hm (N : Nat) (st : Nat → Nat → Prop) (A : Nat → Prop) (h : Nat → Nat) : Prop := ∀ s, s < N → h s ≤ s ∧ (h s = s ∨ fw_g N st A s (h s)) ∧ ∀ t, t < h s → ¬ fw_g N st A s t
theorem fw_h1 {h : Nat → Nat} (H : fw_hm N st A h) {s : Nat} (hs : s < N) (a : A s) : fw_g N st A s (h s) := by
  rcases (H s hs).2.1 with e | e
  · rw [e]; exact fw_gr hs a
  · exact e
theorem fw_h0 {h : Nat → Nat} (H : fw_hm N st A h) {s : Nat} (hs : s < N) (a : ¬ A s) : h s = s := by
  rcases (H s hs).2.1 with e | e
  · exact e
  · exact absurd (fw_in e.1).2.2.1 a
theorem fw_hl {h : Nat → Nat} (H : fw_hm N st A h) {s t : Nat} (hs : s < N) (a : A s) (g : fw_g N st A s t) : h s ≤ h t := by
  have ht := (fw_in g.1).2.1
  have at' := (fw_in g.1).2.2.2
  have k := fw_gt g (fw_h1 H ht at')
  rcases Nat.lt_or_ge (h t) (h s) with z | z
  · exact absurd k ((H s hs).2.2 _ z)
  · exact z
theorem fw_he {h : Nat → Nat} (H : fw_hm N st A h) {s t : Nat} (hs : s < N) (ht : t < N) (a : A s) : h t = h s ↔ fw_g N st A s t := by
  constructor
  · intro e
    have k := fw_h1 H hs a
    by_cases b : A t
    · have k2 := fw_h1 H ht b
      rw [e] at k2
      exact fw_gt k (fw_gs k2)
    · have e2 := fw_h0 H ht b
      rw [← e, e2] at k
      exact k
  · intro g
    have h1 := fw_hl H hs a g
    have h2 := fw_hl H ht (fw_in g.1).2.2.2 (fw_gs g)
    omega
/-! unfair states are taken away -/
def fw_un (N : Nat) (st : Nat → Nat → Prop) (M : Nat → Nat → Nat → Bool) (en : Nat → Nat → Bool) (ft : Nat → Nat) (A : Nat → Prop) (s : Nat) : Prop :=
  ∃ a, a < 4 ∧ ft a ≠ 0 ∧ en a s = true ∧ (ft a = 1 → ∀ t, t < N → fw_g N st A s t → en a t = true) ∧ ¬ ∃ x y, x < N ∧ y < N ∧ x ≠ y ∧ M a x y = true ∧ fw_g N st A s x ∧ fw_g N st A s y
def fw_nx (N : Nat) (st : Nat → Nat → Prop) (M : Nat → Nat → Nat → Bool) (en : Nat → Nat → Bool) (ft : Nat → Nat) (A : Nat → Prop) (s : Nat) : Prop := A s ∧ ¬ fw_un N st M en ft A s
def fw_it (N : Nat) (st : Nat → Nat → Prop) (M : Nat → Nat → Nat → Bool) (en : Nat → Nat → Bool) (ft : Nat → Nat) (C : Nat → Prop) : Nat → Nat → Prop
  | 0 => C
  | k + 1 => fw_nx N st M en ft (fw_it N st M en ft C k)
variable {M : Nat → Nat → Nat → Bool} {en : Nat → Nat → Bool} {ft : Nat → Nat} {C : Nat → Prop}
theorem fw_its : ∀ k s, fw_it N st M en ft C k s → C s := by
  intro k
  induction k with
  | zero => intro s h; exact h
  | succ k ih => intro s h; exact ih s h.1
theorem fw_fx {k : Nat} (hC : ∀ s, C s → s < N) (h : ∀ s, s < N → fw_it N st M en ft C k s → ¬ fw_un N st M en ft (fw_it N st M en ft C k) s) : ∀ j, fw_it N st M en ft C (k + j) = fw_it N st M en ft C k := by
  intro j
  induction j with
  | zero => rfl
  | succ j ih =>
    show fw_nx N st M en ft (fw_it N st M en ft C (k + j)) = _
    rw [ih]
    funext s
    apply propext
    exact ⟨fun z => z.1, fun z => ⟨z, h s (hC s (fw_its k s z)) z⟩⟩
theorem fw_ct {k : Nat} (h : ∃ s, s < N ∧ fw_it N st M en ft C k s ∧ fw_un N st M en ft (fw_it N st M en ft C k) s) : fg_cn (fw_it N st M en ft C (k + 1)) N < fg_cn (fw_it N st M en ft C k) N := by
  obtain ⟨s, hs, a, b⟩ := h
  exact fg_cn_lt N (fun s _ z => z.1) ⟨s, hs, a, fun z => z.2 b⟩
def fw_F (N : Nat) (st : Nat → Nat → Prop) (M : Nat → Nat → Nat → Bool) (en : Nat → Nat → Bool) (ft : Nat → Nat) (C : Nat → Prop) : Nat → Prop := fw_it N st M en ft C N
theorem fw_Fe {k : Nat} (hC : ∀ s, C s → s < N) (hk : k ≤ N) (h : ∀ s, s < N → fw_it N st M en ft C k s → ¬ fw_un N st M en ft (fw_it N st M en ft C k) s) : fw_it N st M en ft C k = fw_F N st M en ft C := by
  have := fw_fx hC h (N - k)
  rw [show k + (N - k) = N by omega] at this
  exact this.symm
/-- the states from which a calm way leads to a state of F -/
def fw_cm (N : Nat) (st : Nat → Nat → Prop) (C F : Nat → Prop) (s : Nat) : Prop := C s ∧ ∃ t, t < N ∧ F t ∧ fw_W N st C N s t
theorem fw_ce {B F : Nat → Prop} (hC : ∀ s, C s → s < N) (hF : ∀ s, F s → C s) (h1 : ∀ s, F s → B s) (h2 : ∀ s, B s → fw_cm N st C F s) (h3 : ∀ s, s < N → C s → (∃ t, B t ∧ st s t) → B s) (s : Nat) : B s ↔ fw_cm N st C F s := by
  constructor
  · exact h2 s
  · intro ⟨c, t, ht, f, w⟩
    exact fw_cl (fun a b ha hA hb e k => h3 a ha hA ⟨b, k, e⟩) N s t w (h1 t f)
theorem fw_c0 {F : Nat → Prop} (hC : ∀ s, C s → s < N) (hF : ∀ s, F s → C s) {s : Nat} (h : F s) : fw_cm N st C F s :=
  ⟨hF s h, s, hC s (hF s h), h, (fw_gr (hC s (hF s h)) (hF s h)).1⟩
theorem fw_c1 {F : Nat → Prop} {s t : Nat} (hs : s < N) (ht : t < N) (h : C s) (e : st s t) (k : fw_cm N st C F t) : fw_cm N st C F s := by
  obtain ⟨c, u, hu, f, w⟩ := k
  exact ⟨h, u, hu, f, fw_tr (fw_up ⟨hs, ht, h, c, Or.inr e⟩) w⟩
end FFA
