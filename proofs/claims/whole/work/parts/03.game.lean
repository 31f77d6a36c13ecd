/-! the game: a history of cards (newest first) over a deal b, a first leader q0, trumps t -/
def ot_h (b : Nat → Nat) : List Nat → Nat → Nat
  | [] => b
  | x :: l => fun c => if c = x then 4 else ot_h b l c
def ot_p : List Nat → Nat → Nat
  | [] => fun _ => 0
  | x :: l => fun i => if i = l.length then x else ot_p l i
def ot_b (t : Int32) (c top : Nat) : Bool := if c / 4 = top / 4 then decide (top < c) else decide (nI (c / 4) = t)
def ot_tp (t : Int32) (f : Nat → Nat) (s : Nat) : Nat → Nat
  | 0 => s
  | j + 1 => if ot_b t (f (s + j + 1)) (f (ot_tp t f s j)) = true then s + j + 1 else ot_tp t f s j
def ot_l (q0 : Nat) (t : Int32) : List Nat → Nat → Nat
  | [] => fun _ => q0
  | x :: l => fun k => if (l.length + 1) % 4 = 0 ∧ k = (l.length + 1) / 4 then (ot_l q0 t l (k - 1) + (ot_tp t (ot_p (x :: l)) (4 * (k - 1)) 3 - 4 * (k - 1))) % 4 else ot_l q0 t l k
def ot_t (q0 : Nat) (t : Int32) (l : List Nat) : Nat := (ot_l q0 t l (l.length / 4) + l.length % 4) % 4
def ot_f (b : Nat → Nat) (q0 : Nat) (t : Int32) (l : List Nat) : Nat → Bool := fun c => ot_h b l c == ot_t q0 t l && c / 4 == ot_p l (l.length - l.length % 4) / 4
def ot_g (b : Nat → Nat) (q0 : Nat) (t : Int32) (l : List Nat) : Nat → Bool :=
  if l.length % 4 = 0 then (fun c => ot_h b l c == ot_t q0 t l)
  else if ot_K (ot_f b q0 t l) = 0 then (fun c => ot_h b l c == ot_t q0 t l)
  else ot_f b q0 t l
def ot_ok (b : Nat → Nat) (q0 : Nat) (t : Int32) : List Nat → Prop
  | [] => True
  | c :: l => ot_ok b q0 t l ∧ c < 12 ∧ ot_g b q0 t l c = true
def ot_w (q0 : Nat) (t : Int32) (l : List Nat) (s : Nat) : Nat → Nat
  | 0 => 0
  | k + 1 => ot_w q0 t l s k + (if ot_l q0 t l (k + 1) % 2 = s then 1 else 0)
theorem ot_tp_in (t : Int32) (f : Nat → Nat) (s j : Nat) : s ≤ ot_tp t f s j ∧ ot_tp t f s j ≤ s + j := by
  induction j with
  | zero => exact ⟨Nat.le_refl _, Nat.le_refl _⟩
  | succ j ih =>
    rw [ot_tp]
    split <;> omega
theorem ot_tp_ext {t : Int32} {f g : Nat → Nat} {s : Nat} : ∀ j, (∀ i, s ≤ i → i ≤ s + j → f i = g i) → ot_tp t f s j = ot_tp t g s j := by
  intro j
  induction j with
  | zero => intro _; rfl
  | succ j ih =>
    intro h
    have e := ih (fun i h1 h2 => h i h1 (by omega))
    have hi := ot_tp_in t g s j
    rw [ot_tp, ot_tp, e, h (s + j + 1) (by omega) (by omega), h (ot_tp t g s j) (by omega) (by omega)]
theorem ot_h_or (b : Nat → Nat) (l : List Nat) (c : Nat) : ot_h b l c = 4 ∨ ot_h b l c = b c := by
  induction l with
  | nil => exact Or.inr rfl
  | cons x l ih =>
    show (if c = x then 4 else ot_h b l c) = 4 ∨ (if c = x then 4 else ot_h b l c) = b c
    by_cases h : c = x
    · rw [if_pos h]; exact Or.inl rfl
    · rw [if_neg h]; exact ih
theorem ot_h_le {b : Nat → Nat} (hb : ∀ c, c < 12 → b c ≤ 4) (l : List Nat) {c : Nat} (hc : c < 12) : ot_h b l c ≤ 4 := by
  have := hb c hc
  rcases ot_h_or b l c with h | h <;> omega
theorem ot_p_cons {x : Nat} {l : List Nat} {i : Nat} (h : i < l.length) : ot_p (x :: l) i = ot_p l i := if_neg (by omega)
theorem ot_p_top (x : Nat) (l : List Nat) : ot_p (x :: l) l.length = x := if_pos rfl
theorem ot_p_lt {b : Nat → Nat} {q0 : Nat} {t : Int32} : ∀ {l : List Nat}, ot_ok b q0 t l → ∀ i, ot_p l i < 12 := by
  intro l
  induction l with
  | nil => intro _ i; exact (by decide : 0 < 12)
  | cons x l ih =>
    intro h i
    show (if i = l.length then x else ot_p l i) < 12
    by_cases hi : i = l.length
    · rw [if_pos hi]; exact h.2.1
    · rw [if_neg hi]; exact ih h.1 i
theorem ot_l_lt {q0 : Nat} (hq : q0 < 4) (t : Int32) : ∀ (l : List Nat) (k : Nat), ot_l q0 t l k < 4 := by
  intro l
  induction l with
  | nil => intro k; exact hq
  | cons x l ih =>
    intro k
    unfold ot_l
    by_cases h : (l.length + 1) % 4 = 0 ∧ k = (l.length + 1) / 4
    · rw [if_pos h]; omega
    · rw [if_neg h]; exact ih k
theorem ot_l_cons {q0 : Nat} {t : Int32} {x : Nat} {l : List Nat} {k : Nat} (h : k ≤ l.length / 4) : ot_l q0 t (x :: l) k = ot_l q0 t l k := by
  rw [ot_l]
  exact if_neg (by omega)
theorem ot_l_top {q0 : Nat} {t : Int32} {x : Nat} {l : List Nat} (h : (l.length + 1) % 4 = 0) : ot_l q0 t (x :: l) ((l.length + 1) / 4) = (ot_l q0 t l (l.length / 4) + (ot_tp t (ot_p (x :: l)) (4 * (l.length / 4)) 3 - 4 * (l.length / 4))) % 4 := by
  have e : (l.length + 1) / 4 - 1 = l.length / 4 := by omega
  show (if (l.length + 1) % 4 = 0 ∧ (l.length + 1) / 4 = (l.length + 1) / 4 then _ else _) = _
  rw [if_pos ⟨h, rfl⟩, e]
theorem ot_l_next {q0 : Nat} {t : Int32} : ∀ (l : List Nat) (k : Nat), 4 * (k + 1) ≤ l.length → ot_l q0 t l (k + 1) = (ot_l q0 t l k + (ot_tp t (ot_p l) (4 * k) 3 - 4 * k)) % 4 := by
  intro l
  induction l with
  | nil => intro k h; exact absurd h (by simp)
  | cons x l ih =>
    intro k h
    have hl : (x :: l).length = l.length + 1 := rfl
    by_cases h2 : 4 * (k + 1) = l.length + 1
    · have e1 : (l.length + 1) / 4 = k + 1 := by omega
      have e2 : l.length / 4 = k := by omega
      have := ot_l_top (q0 := q0) (t := t) (x := x) (l := l) (by omega)
      rw [e1, e2] at this
      rw [this, ot_l_cons (k := k) (by omega)]
    · rw [ot_l_cons (by omega), ot_l_cons (by omega), ih k (by omega), ot_tp_ext (f := ot_p (x :: l)) (g := ot_p l) 3 (fun i h3 h4 => ot_p_cons (by omega))]
theorem ot_t_lt (q0 : Nat) (t : Int32) (l : List Nat) : ot_t q0 t l < 4 := Nat.mod_lt _ (by decide)
theorem ot_g_h {b : Nat → Nat} {q0 : Nat} {t : Int32} {l : List Nat} {c : Nat} (h : ot_g b q0 t l c = true) : ot_h b l c = ot_t q0 t l := by
  unfold ot_g at h
  by_cases h1 : l.length % 4 = 0
  · rw [if_pos h1] at h; simpa using h
  · rw [if_neg h1] at h
    by_cases h2 : ot_K (ot_f b q0 t l) = 0
    · rw [if_pos h2] at h; simpa using h
    · rw [if_neg h2] at h
      simp only [ot_f, Bool.and_eq_true, beq_iff_eq] at h
      exact h.1
theorem ot_g_b {b : Nat → Nat} {q0 : Nat} {t : Int32} {l : List Nat} {c : Nat} (h : ot_g b q0 t l c = true) : b c = ot_t q0 t l ∧ ot_h b l c = b c := by
  have h1 := ot_g_h h
  have h2 := ot_t_lt q0 t l
  rcases ot_h_or b l c with h3 | h3
  · omega
  · exact ⟨by omega, h3⟩
/-- how many cards player p has left -/
theorem ot_cnt {b : Nat → Nat} {q0 : Nat} {t : Int32} {e : Nat} (hq : q0 < 4) (he : ∀ p, p < 4 → ot_c (fun c => b c == p) 12 = e) :
    ∀ l : List Nat, ot_ok b q0 t l → ∀ p, p < 4 → ot_c (fun c => ot_h b l c == p) 12 + l.length / 4 + (if (p + 4 - ot_l q0 t l (l.length / 4)) % 4 < l.length % 4 then 1 else 0) = e := by
  intro l
  induction l with
  | nil =>
    intro _ p hp
    have := he p hp
    have h0 : ¬ ((p + 4 - ot_l q0 t [] (([] : List Nat).length / 4)) % 4 < ([] : List Nat).length % 4) := by
      simp
    rw [if_neg h0]
    simpa [ot_h] using this
  | cons x l ih =>
    intro hok p hp
    have hg := ot_g_h hok.2.2
    have hx := hok.2.1
    have hl := ot_l_lt hq t l (l.length / 4)
    have hl' := ot_l_lt hq t (x :: l) ((l.length + 1) / 4)
    have hi := ih hok.1 p hp
    have ht : ot_t q0 t l = (ot_l q0 t l (l.length / 4) + l.length % 4) % 4 := rfl
    have hL : (x :: l).length = l.length + 1 := rfl
    rw [hL]
    have hc : ot_c (fun c => ot_h b (x :: l) c == p) 12 + (if p = ot_t q0 t l then 1 else 0) = ot_c (fun c => ot_h b l c == p) 12 := by
      by_cases hpt : p = ot_t q0 t l
      · rw [if_pos hpt]
        apply ot_c_drop hx
        · intro c _ hne
          show ((if c = x then 4 else ot_h b l c) == p) = _
          rw [if_neg hne]
        · rw [hg, hpt]; simp
        · show ((if x = x then 4 else ot_h b l x) == p) = false
          rw [if_pos rfl]; simp; omega
      · rw [if_neg hpt]
        apply ot_c_ext
        intro c _
        show ((if c = x then 4 else ot_h b l c) == p) = _
        by_cases hne : c = x
        · rw [if_pos hne, hne, hg]
          rw [Bool.eq_iff_iff]; simp; omega
        · rw [if_neg hne]
    generalize ot_c (fun c => ot_h b (x :: l) c == p) 12 = A at hc ⊢
    generalize ot_c (fun c => ot_h b l c == p) 12 = B at hc hi
    generalize ot_t q0 t l = T at ht hc
    by_cases hm : (l.length + 1) % 4 = 0
    · generalize ot_l q0 t (x :: l) ((l.length + 1) / 4) = L' at hl' ⊢
      generalize ot_l q0 t l (l.length / 4) = L at hl hi ht
      rw [if_neg (by omega)]
      by_cases hpt : p = T
      · rw [if_pos hpt] at hc
        rw [if_neg (by omega)] at hi
        omega
      · rw [if_neg hpt] at hc
        rw [if_pos (by omega)] at hi
        omega
    · have e1 : (l.length + 1) / 4 = l.length / 4 := by omega
      rw [e1, ot_l_cons (Nat.le_refl _)]
      generalize ot_l q0 t l (l.length / 4) = L at hl hi ht ⊢
      by_cases hpt : p = T
      · rw [if_pos hpt] at hc
        rw [if_neg (by omega)] at hi
        rw [if_pos (by omega)]
        omega
      · rw [if_neg hpt] at hc
        by_cases h3 : (p + 4 - L) % 4 < l.length % 4
        · rw [if_pos h3] at hi
          rw [if_pos (by omega)]
          omega
        · rw [if_neg h3] at hi
          rw [if_neg (by omega)]
          omega
/-- what stands at the player whose turn it is -/
theorem ot_cnt_t {b : Nat → Nat} {q0 : Nat} {t : Int32} {e : Nat} (hq : q0 < 4) (he : ∀ p, p < 4 → ot_c (fun c => b c == p) 12 = e) (l : List Nat) (hok : ot_ok b q0 t l) :
    ot_c (fun c => ot_h b l c == ot_t q0 t l) 12 + l.length / 4 = e := by
  have h := ot_cnt hq he l hok (ot_t q0 t l) (ot_t_lt q0 t l)
  have hl := ot_l_lt hq t l (l.length / 4)
  have ht : ot_t q0 t l = (ot_l q0 t l (l.length / 4) + l.length % 4) % 4 := rfl
  generalize ot_c (fun c => ot_h b l c == ot_t q0 t l) 12 = A at h ⊢
  generalize ot_t q0 t l = T at ht h
  generalize ot_l q0 t l (l.length / 4) = L at hl h ht
  rw [if_neg (by omega)] at h
  omega
theorem ot_g_le {b : Nat → Nat} {q0 : Nat} {t : Int32} {l : List Nat} : ot_c (ot_g b q0 t l) 12 ≤ ot_c (fun c => ot_h b l c == ot_t q0 t l) 12 :=
  ot_c_mono (fun c _ h => by rw [ot_g_h h]; simp)
/-- no card may be played: exactly when the player whose turn it is holds none -/
theorem ot_g_0 {b : Nat → Nat} {q0 : Nat} {t : Int32} {l : List Nat} : ot_K (ot_g b q0 t l) = 0 ↔ ot_c (fun c => ot_h b l c == ot_t q0 t l) 12 = 0 := by
  rw [ot_K_0, ot_c_0]
  unfold ot_g
  by_cases h1 : l.length % 4 = 0
  · rw [if_pos h1]
  · rw [if_neg h1]
    by_cases h2 : ot_K (ot_f b q0 t l) = 0
    · rw [if_pos h2]
    · rw [if_neg h2]
      constructor
      · intro h; exact absurd ((ot_K_0 _).mpr h) h2
      · intro h c hc
        have := h c hc
        simp only [ot_f, this, Bool.false_and]
/-- the end: the player at turn holds nothing, so nobody does -/
theorem ot_end {b : Nat → Nat} {q0 : Nat} {t : Int32} {e : Nat} (hq : q0 < 4) (he : ∀ p, p < 4 → ot_c (fun c => b c == p) 12 = e) (l : List Nat) (hok : ot_ok b q0 t l)
    (h0 : ot_c (fun c => ot_h b l c == ot_t q0 t l) 12 = 0) : ∀ p, p < 4 → ot_c (fun c => ot_h b l c == p) 12 = 0 := by
  intro p hp
  have h1 := ot_cnt_t hq he l hok
  have h2 := ot_cnt hq he l hok p hp
  omega
theorem ot_len {b : Nat → Nat} {q0 : Nat} {t : Int32} {e : Nat} (hq : q0 < 4) (he : ∀ p, p < 4 → ot_c (fun c => b c == p) 12 = e) (l : List Nat) (hok : ot_ok b q0 t l) : l.length ≤ 4 * e := by
  have hl := ot_l_lt hq t l (l.length / 4)
  have h1 := ot_cnt_t hq he l hok
  have h2 := ot_cnt hq he l hok (ot_l q0 t l (l.length / 4)) hl
  generalize ot_l q0 t l (l.length / 4) = L at hl h2
  have e0 : (L + 4 - L) % 4 = 0 := by omega
  rw [e0] at h2
  by_cases h3 : 0 < l.length % 4
  · rw [if_pos h3] at h2; omega
  · omega
/-- one may play: fewer than 4 e cards have been played -/
theorem ot_len_lt {b : Nat → Nat} {q0 : Nat} {t : Int32} {e : Nat} (hq : q0 < 4) (he : ∀ p, p < 4 → ot_c (fun c => b c == p) 12 = e) {c : Nat} {l : List Nat} (hok : ot_ok b q0 t (c :: l)) : l.length + 1 ≤ 4 * e :=
  ot_len hq he (c :: l) hok
theorem ot_w_le (q0 : Nat) (t : Int32) (l : List Nat) (s k : Nat) : ot_w q0 t l s k ≤ k := by
  induction k with
  | zero => exact Nat.le_refl _
  | succ k ih =>
    rw [ot_w]
    split <;> omega
