/-! sets of cards: a mask of twelve bits, a count, the list of its cards in order -/
def ot_m (P : Nat → Bool) : Nat → Nat
  | 0 => 0
  | n + 1 => ot_m P n ||| (if P n = true then 2 ^ n else 0)
theorem ot_m_tb (P : Nat → Bool) (n i : Nat) : (ot_m P n).testBit i = (decide (i < n) && P i) := by
  induction n with
  | zero => simp [ot_m]
  | succ n ih =>
    have e : (if P n = true then 2 ^ n else 0 : Nat).testBit i = (decide (i = n) && P i) := by
      by_cases h : i = n
      · subst h
        by_cases hp : P i = true
        · rw [if_pos hp, Nat.testBit_two_pow, hp]; simp
        · rw [if_neg hp]; simp [hp]
      · by_cases hp : P n = true
        · rw [if_pos hp, Nat.testBit_two_pow, decide_eq_false h, decide_eq_false (fun z => h z.symm)]; rfl
        · rw [if_neg hp, decide_eq_false h]; simp
    have d : decide (i < n + 1) = (decide (i < n) || decide (i = n)) := by
      rw [Bool.eq_iff_iff]
      simp only [Bool.or_eq_true, decide_eq_true_eq]
      omega
    rw [ot_m, Nat.testBit_or, ih, e, d]
    cases P i <;> simp
theorem ot_m_lt (P : Nat → Bool) (n : Nat) : ot_m P n < 2 ^ n := by
  apply Nat.lt_pow_two_of_testBit
  intro i hi
  rw [ot_m_tb, decide_eq_false (by omega)]
  rfl
theorem ot_m_4096 (P : Nat → Bool) : ot_m P 12 < 4096 := ot_m_lt P 12
theorem ot_m_ext {P Q : Nat → Bool} {n : Nat} (h : ∀ c, c < n → P c = Q c) : ot_m P n = ot_m Q n := by
  apply Nat.eq_of_testBit_eq
  intro i
  rw [ot_m_tb, ot_m_tb]
  by_cases hi : i < n
  · rw [h i hi]
  · simp [hi]
def ot_K (P : Nat → Bool) : Int32 := nI (ot_m P 12)
theorem ot_K_ext {P Q : Nat → Bool} (h : ∀ c, c < 12 → P c = Q c) : ot_K P = ot_K Q := congrArg nI (ot_m_ext h)
theorem ot_K_bt (P : Nat → Bool) (i : Nat) : bt (ot_K P) i = (decide (i < 12) && P i) := by
  show (BitVec.ofNat 32 (ot_m P 12)).getLsbD i = _
  rw [BitVec.getLsbD_ofNat, ot_m_tb]
  by_cases h : i < 12
  · simp [h, show i < 32 by omega]
  · simp [h]
theorem ot_K_and (P Q : Nat → Bool) : ot_K P &&& ot_K Q = ot_K (fun c => P c && Q c) := by
  apply b_ext
  intro i hi
  rw [b_and, ot_K_bt, ot_K_bt, ot_K_bt]
  cases decide (i < 12) <;> simp
theorem ot_K_or (P Q : Nat → Bool) : ot_K P ||| ot_K Q = ot_K (fun c => P c || Q c) := by
  apply b_ext
  intro i hi
  rw [b_or, ot_K_bt, ot_K_bt, ot_K_bt]
  cases decide (i < 12) <;> simp
theorem ot_K_andn (P Q : Nat → Bool) : ot_K P &&& (ot_K Q ^^^ (-1)) = ot_K (fun c => P c && !Q c) := by
  apply b_ext
  intro i hi
  rw [b_and, b_xor, ot_K_bt, ot_K_bt, ot_K_bt, b_m1 i hi]
  cases decide (i < 12) <;> simp
theorem ot_1 : ∀ c, c < 12 → (1 : Int32) <<< (nI c &&& 31) = ot_K (fun i => i == c) := by decide +kernel
theorem ot_15 : ∀ s, s < 3 → (15 : Int32) <<< (nI (s * 4) &&& 31) = ot_K (fun i => i / 4 == s) := by decide +kernel
theorem ot_K_bit (P : Nat → Bool) {c : Nat} (hc : c < 12) : (ot_K P >>> (nI c &&& 31)) &&& 1 = nI (if P c = true then 1 else 0) := by
  unfold ot_K
  have hm := ot_m_4096 P
  have ht := ot_m_tb P 12 c
  rw [decide_eq_true hc, Bool.true_and, Nat.testBit_eq_decide_div_mod_eq] at ht
  rw [pk_shrN (by omega) _ c (s_l c (by omega))]
  show nI _ &&& nI 1 = _
  rw [nx_and, Nat.and_one_is_mod]
  generalize ot_m P 12 / 2 ^ c = z at ht ⊢
  by_cases hp : P c = true
  · rw [hp, decide_eq_true_eq] at ht
    rw [if_pos hp, ht]
  · have hp' : P c = false := by simpa using hp
    rw [hp', decide_eq_false_iff_not] at ht
    rw [if_neg hp]
    exact congrArg nI (by omega)
theorem ot_K_0 (P : Nat → Bool) : ot_K P = 0 ↔ ∀ c, c < 12 → P c = false := by
  unfold ot_K
  have hm := ot_m_4096 P
  rw [← nI_0, nI_eq (by omega) (by omega)]
  constructor
  · intro h c hc
    have ht := ot_m_tb P 12 c
    rw [h, decide_eq_true hc] at ht
    simpa using ht.symm
  · intro h
    apply Nat.eq_of_testBit_eq
    intro i
    rw [ot_m_tb]
    by_cases hi : i < 12
    · simp [h i hi]
    · simp [hi]
theorem ot_K_none : ot_K (fun _ => false) = 0 := (ot_K_0 _).mpr (fun _ _ => rfl)
/-! counts -/
def ot_c (P : Nat → Bool) : Nat → Nat
  | 0 => 0
  | n + 1 => ot_c P n + (if P n = true then 1 else 0)
theorem ot_c_ext {P Q : Nat → Bool} {n : Nat} (h : ∀ c, c < n → P c = Q c) : ot_c P n = ot_c Q n := by
  induction n with
  | zero => rfl
  | succ n ih =>
    rw [ot_c, ot_c, ih (fun c hc => h c (by omega)), h n (by omega)]
theorem ot_c_le (P : Nat → Bool) (n : Nat) : ot_c P n ≤ n := by
  induction n with
  | zero => exact Nat.le_refl _
  | succ n ih =>
    rw [ot_c]
    split <;> omega
theorem ot_c_mono {P Q : Nat → Bool} {n : Nat} (h : ∀ c, c < n → P c = true → Q c = true) : ot_c P n ≤ ot_c Q n := by
  induction n with
  | zero => exact Nat.le_refl _
  | succ n ih =>
    have := ih (fun c hc => h c (by omega))
    have h2 := h n (by omega)
    rw [ot_c, ot_c]
    by_cases hp : P n = true
    · rw [if_pos hp, if_pos (h2 hp)]; omega
    · rw [if_neg hp]; omega
theorem ot_c_0 {P : Nat → Bool} {n : Nat} : ot_c P n = 0 ↔ ∀ c, c < n → P c = false := by
  induction n with
  | zero => simp [ot_c]
  | succ n ih =>
    rw [ot_c]
    constructor
    · intro h c hc
      by_cases hp : P n = true
      · rw [if_pos hp] at h; omega
      · rw [if_neg hp] at h
        by_cases hcn : c = n
        · subst hcn; simpa using hp
        · exact ih.mp (by omega) c (by omega)
    · intro h
      rw [ih.mpr (fun c hc => h c (by omega)), h n (by omega)]
      rfl
theorem ot_c_drop {P Q : Nat → Bool} {n x : Nat} (hx : x < n) (h : ∀ c, c < n → c ≠ x → Q c = P c) (hp : P x = true) (hq : Q x = false) : ot_c Q n + 1 = ot_c P n := by
  induction n with
  | zero => omega
  | succ n ih =>
    rw [ot_c, ot_c]
    by_cases hxn : x = n
    · subst hxn
      rw [ot_c_ext (n := x) (P := Q) (Q := P) (fun c hc => h c (by omega) (by omega)), hp, hq]
      rfl
    · have := ih (by omega) (fun c hc hne => h c (by omega) hne)
      rw [h n (by omega) (fun z => hxn z.symm)]
      omega
/-! the list of the cards of a set, in order -/
def ot_bl (P : Nat → Bool) : List Nat := (List.range' 0 12).filter P
theorem ot_fr (P : Nat → Bool) : ∀ (n s c : Nat) (cs : List Nat), (List.range' s n).filter P = c :: cs →
    s ≤ c ∧ c < s + n ∧ P c = true ∧ (∀ j, s ≤ j → j < c → P j = false) ∧ (List.range' s n).filter (fun i => P i && !(i == c)) = cs := by
  intro n
  induction n with
  | zero => intro s c cs h; simp at h
  | succ n ih =>
    intro s c cs h
    rw [List.range'_succ] at h ⊢
    by_cases hp : P s = true
    · rw [List.filter_cons_of_pos hp] at h
      obtain ⟨h1, h2⟩ := List.cons.inj h
      subst h1
      refine ⟨Nat.le_refl _, by omega, hp, fun j h1 h2 => by omega, ?_⟩
      rw [List.filter_cons_of_neg (by simp), ← h2]
      apply List.filter_congr
      intro x hx
      rw [List.mem_range'_1] at hx
      have : (x == s) = false := by simp; omega
      rw [this]; simp
    · rw [List.filter_cons_of_neg hp] at h
      obtain ⟨h1, h2, h3, h4, h5⟩ := ih (s + 1) c cs h
      refine ⟨by omega, by omega, h3, fun j a b => ?_, ?_⟩
      · by_cases hj : j = s
        · subst hj; simpa using hp
        · exact h4 j (by omega) b
      · rw [List.filter_cons_of_neg (by simp [hp])]
        exact h5
theorem ot_bl_cons {P : Nat → Bool} {c : Nat} {cs : List Nat} (h : ot_bl P = c :: cs) : c < 12 ∧ P c = true ∧ (∀ j, j < c → P j = false) ∧ ot_bl (fun i => P i && !(i == c)) = cs := by
  obtain ⟨_, h2, h3, h4, h5⟩ := ot_fr P 12 0 c cs h
  exact ⟨by omega, h3, fun j hj => h4 j (by omega) hj, h5⟩
theorem ot_bl_mem {P : Nat → Bool} {c : Nat} : c ∈ ot_bl P ↔ c < 12 ∧ P c = true := by
  unfold ot_bl
  rw [List.mem_filter, List.mem_range'_1]
  constructor
  · rintro ⟨h1, h2⟩; exact ⟨by omega, h2⟩
  · rintro ⟨h1, h2⟩; exact ⟨by omega, h2⟩
theorem ot_bl_nil {P : Nat → Bool} : ot_bl P = [] ↔ ∀ c, c < 12 → P c = false := by
  constructor
  · intro h c hc
    cases hp : P c with
    | false => rfl
    | true =>
      have : c ∈ ot_bl P := ot_bl_mem.mpr ⟨hc, hp⟩
      rw [h] at this
      cases this
  · intro h
    cases hb : ot_bl P with
    | nil => rfl
    | cons c cs =>
      obtain ⟨h1, h2, _⟩ := ot_bl_cons hb
      rw [h c h1] at h2
      cases h2
theorem ot_bl_len (P : Nat → Bool) : (ot_bl P).length = ot_c P 12 := by
  have : ∀ n, ((List.range n).filter P).length = ot_c P n := by
    intro n
    induction n with
    | zero => rfl
    | succ n ih =>
      rw [List.range_succ, List.filter_append, List.length_append, ih, ot_c]
      by_cases hp : P n = true
      · simp [hp]
      · simp [hp]
  unfold ot_bl
  rw [← List.range_eq_range']
  exact this 12
theorem ot_bl_lt (P : Nat → Bool) : (ot_bl P).Pairwise (· < ·) := by
  unfold ot_bl
  rw [← List.range_eq_range']
  exact List.Pairwise.filter _ List.pairwise_lt_range
