section
/-! rows of kit/rows (PURE-ROWS, BITS), pasted -/
theorem pk_us {f : Nat → Int32} {k : Nat} {x : Int32} : upd f k x k = x := if_pos rfl
theorem pk_un {f : Nat → Int32} {k j : Nat} {x : Int32} (h : j ≠ k) : upd f k x j = f j := if_neg h
theorem pk_sub {a b : Nat} (h : b ≤ a) : nI a - nI b = nI (a - b) := by
  obtain ⟨c, rfl⟩ : ∃ c, a = c + b := ⟨a - b, by omega⟩
  rw [← nI_add, Int32.add_sub_cancel, Nat.add_sub_cancel]
theorem pk_m1 (n : Nat) : nI (n + 1) + (-1) = nI n := by
  rw [← nI_1, Int32.add_assoc, show (1 : Int32) + (-1) = 0 from rfl, Int32.add_zero]
theorem pk_mul (a b : Nat) : nI a * nI b = nI (a * b) := (Int32.ofNat_mul a b).symm
theorem pk_div {a d : Nat} (ha : a < 2 ^ 31) (h0 : 0 < d) (hd : d < 2 ^ 31) : nI a / nI d = nI (a / d) := by
  apply Int32.toInt_inj.mp
  rw [lg_idiv_nonneg (by rw [nI_toInt ha]; omega) (by rw [nI_toInt hd]; omega), nI_toInt ha, nI_toInt hd, nI_toInt (Nat.lt_of_le_of_lt (Nat.div_le_self a d) ha)]
  first | rfl | exact (Int.natCast_ediv _ _).symm
theorem pk_rem {a d : Nat} (ha : a < 2 ^ 31) (h0 : 0 < d) (hd : d < 2 ^ 31) : nI a - nI a / nI d * nI d = nI (a % d) := by
  rw [pk_div ha h0 hd, pk_mul, pk_sub (Nat.div_mul_le_self a d)]
  exact congrArg nI (by have := Nat.div_add_mod' a d; omega)
theorem pk_ix (x : Int32) {n : Nat} (hn : n < 2 ^ 31) : x < 0 ∨ nI n ≤ x ∨ ∃ j : Nat, j < n ∧ x = nI j := by
  by_cases h : x < 0
  · exact Or.inl h
  · obtain ⟨j, hj, rfl⟩ := nI_of h
    by_cases h2 : j < n
    · exact Or.inr (Or.inr ⟨j, h2, rfl⟩)
    · exact Or.inr (Or.inl (nI_le (by omega) hj))
theorem pk_le {x y : Int32} {A B : Prop} (a b : Nat) (f : a ≤ b → A) (g : b < a → B) (hx : x = nI a := by rfl) (hy : y = nI b := by rfl) (ha : a < 2 ^ 31 := by omega) (hb : b < 2 ^ 31 := by omega) : (x ≤ y → A) ∧ (¬ x ≤ y → B) := by
  subst hx hy
  rw [nI_leI ha hb]
  exact ⟨f, fun z => g (by omega)⟩
theorem pk_lt {x y : Int32} {A B : Prop} (a b : Nat) (f : a < b → A) (g : b ≤ a → B) (hx : x = nI a := by rfl) (hy : y = nI b := by rfl) (ha : a < 2 ^ 31 := by omega) (hb : b < 2 ^ 31 := by omega) : (x < y → A) ∧ (¬ x < y → B) := by
  subst hx hy
  rw [nI_ltI ha hb]
  exact ⟨f, fun z => g (by omega)⟩
theorem pk_eq {x y : Int32} {A B : Prop} (a b : Nat) (f : a = b → A) (g : a ≠ b → B) (hx : x = nI a := by rfl) (hy : y = nI b := by rfl) (ha : a < 2 ^ 31 := by omega) (hb : b < 2 ^ 31 := by omega) : (x = y → A) ∧ (¬ x = y → B) := by
  subst hx hy
  rw [nI_eq ha hb]
  exact ⟨f, g⟩
theorem pk_in {x : Int32} (n N : Nat) (h : n < N) (hx : x = nI n := by rfl) (hN : N < 2 ^ 31 := by omega) : vp_in x N := by
  subst hx
  exact vp_in_nI h hN
theorem pk_cl {x : Int32} (n : Nat) (hx : x = nI n := by rfl) (h : n < 2 ^ 31 := by omega) : x.toNatClampNeg = n := by
  subst hx
  exact nI_clamp h
theorem pk_tn {n : Nat} (h : n < 2 ^ 32) : (nI n).toBitVec.toNat = n := Nat.mod_eq_of_lt h
theorem pk_shl (a s : Int32) (k : Nat) (hs : (s.toBitVec.smod 32).toNat = k) : (a <<< s).toBitVec.toNat = a.toBitVec.toNat * 2 ^ k % 2 ^ 32 := by
  show (a.toBitVec <<< (s.toBitVec.smod 32).toNat).toNat = _
  rw [hs, BitVec.toNat_shiftLeft, Nat.shiftLeft_eq]
theorem pk_shlN {n : Nat} (s : Int32) (k : Nat) (hs : (s.toBitVec.smod 32).toNat = k) (h : n * 2 ^ k < 2 ^ 32) : nI n <<< s = nI (n * 2 ^ k) := by
  apply Int32.toBitVec_inj.mp
  apply BitVec.eq_of_toNat_eq
  have hn : n < 2 ^ 32 := Nat.lt_of_le_of_lt (Nat.le_mul_of_pos_right n (Nat.two_pow_pos k)) h
  rw [pk_shl _ _ k hs, pk_tn hn, pk_tn h, Nat.mod_eq_of_lt h]
theorem pk_shr (a s : Int32) (k : Nat) (hs : (s.toBitVec.smod 32).toNat = k) : (a >>> s).toInt = a.toInt >>> k := by
  show (a.toBitVec.sshiftRight (s.toBitVec.smod 32).toNat).toInt = _
  rw [hs, BitVec.toInt_sshiftRight]
  rfl
theorem pk_shrN {n : Nat} (h : n < 2 ^ 31) (s : Int32) (k : Nat) (hs : (s.toBitVec.smod 32).toNat = k) : nI n >>> s = nI (n / 2 ^ k) := by
  apply Int32.toInt_inj.mp
  have h2 : n / 2 ^ k ≤ n := Nat.div_le_self _ _
  rw [pk_shr _ _ k hs, nI_toInt h, nI_toInt (by omega), Int.shiftRight_eq_div_pow]
  rfl
theorem pk_loop {σ : Type} (W : Nat → Nat → σ → Prop) (I : Nat → σ → Prop) (e i0 : Nat) (s : σ) (hi : i0 ≤ e) (h0 : I i0 s) (hx : ∀ n s, I e s → W (n + 1) e s)
    (hs : ∀ n i s, i < e → I i s → (∀ s', I (i + 1) s' → W n (i + 1) s') → W (n + 1) i s) : ∃ n, W n i0 s :=
  ⟨e + 1, loop_i W I e hx hs (e + 1) i0 s hi (by omega) h0⟩
def bt (x : Int32) (i : Nat) : Bool := x.toBitVec.getLsbD i
theorem b_ext {x y : Int32} (h : ∀ i, i < 32 → bt x i = bt y i) : x = y := Int32.toBitVec_inj.mp (BitVec.eq_of_getLsbD_eq (fun i hi => h i hi))
theorem b_or (x y : Int32) (i : Nat) : bt (x ||| y) i = (bt x i || bt y i) := by unfold bt; rw [Int32.toBitVec_or, BitVec.getLsbD_or]
theorem b_and (x y : Int32) (i : Nat) : bt (x &&& y) i = (bt x i && bt y i) := by unfold bt; rw [Int32.toBitVec_and, BitVec.getLsbD_and]
theorem b_xor (x y : Int32) (i : Nat) : bt (x ^^^ y) i = (bt x i ^^ bt y i) := by unfold bt; rw [Int32.toBitVec_xor, BitVec.getLsbD_xor]
theorem b_big {x : Int32} {i : Nat} (h : 32 ≤ i) : bt x i = false := BitVec.getLsbD_of_ge _ _ h
theorem b_m1 : ∀ i, i < 32 → bt (-1) i = true := by decide +kernel
theorem b_0 (i : Nat) : bt 0 i = false := BitVec.getLsbD_zero
theorem s_l : ∀ n, n < 32 → ((nI n &&& 31).toBitVec.smod 32).toNat = n := by decide +kernel
theorem b_shl (n : Nat) (hn : n < 32) (x : Int32) {i : Nat} (hi : i < 32) : bt (x <<< (nI n &&& 31)) i = (decide (n ≤ i) && bt x (i - n)) := by
  unfold bt
  rw [Int32.toBitVec_shiftLeft]
  show (x.toBitVec <<< ((nI n &&& 31).toBitVec.smod 32).toNat).getLsbD i = _
  rw [s_l n hn, BitVec.getLsbD_shiftLeft]
  rcases Nat.lt_or_ge i n with h | h
  · simp [h, Nat.not_le.mpr h]
  · simp [hi, h, Nat.not_lt.mpr h]
theorem nx_and (a b : Nat) : nI a &&& nI b = nI (a &&& b) := by
  apply Int32.toBitVec_inj.1
  show BitVec.ofNat 32 a &&& BitVec.ofNat 32 b = BitVec.ofNat 32 (a &&& b)
  apply BitVec.eq_of_getLsbD_eq
  intro i hi
  simp [hi]
end
section
/-! sets of cards: a mask of twelve bits, a count, the list of its cards in order -/
def ot_m (P : Nat → Bool) : Nat → Nat
  | 0 => 0
  | n + 1 => ot_m P n ||| (if P n = true then 2 ^ n else 0)
theorem ot_m_tb (P : Nat → Bool) (n i : Nat) : (ot_m P n).testBit i = (decide (i < n) && P i) := by
  induction n with
  | zero => simp [ot_m]
  | succ n ih =>
    have e : (if P n = true then 2 ^ n else 0 : Nat).testBit i = (decide (i = n) && P i) := by
      by_cases h : i = n
      · subst h
        by_cases hp : P i = true
        · rw [if_pos hp, Nat.testBit_two_pow, hp]; simp
        · rw [if_neg hp]; simp [hp]
      · by_cases hp : P n = true
        · rw [if_pos hp, Nat.testBit_two_pow, decide_eq_false h, decide_eq_false (fun z => h z.symm)]; rfl
        · rw [if_neg hp, decide_eq_false h]; simp
    have d : decide (i < n + 1) = (decide (i < n) || decide (i = n)) := by
      rw [Bool.eq_iff_iff]
      simp only [Bool.or_eq_true, decide_eq_true_eq]
      omega
    rw [ot_m, Nat.testBit_or, ih, e, d]
    cases P i <;> simp
theorem ot_m_lt (P : Nat → Bool) (n : Nat) : ot_m P n < 2 ^ n := by
  apply Nat.lt_pow_two_of_testBit
  intro i hi
  rw [ot_m_tb, decide_eq_false (by omega)]
  rfl
theorem ot_m_4096 (P : Nat → Bool) : ot_m P 12 < 4096 := ot_m_lt P 12
theorem ot_m_ext {P Q : Nat → Bool} {n : Nat} (h : ∀ c, c < n → P c = Q c) : ot_m P n = ot_m Q n := by
  apply Nat.eq_of_testBit_eq
  intro i
  rw [ot_m_tb, ot_m_tb]
  by_cases hi : i < n
  · rw [h i hi]
  · simp [hi]
def ot_K (P : Nat → Bool) : Int32 := nI (ot_m P 12)
theorem ot_K_ext {P Q : Nat → Bool} (h : ∀ c, c < 12 → P c = Q c) : ot_K P = ot_K Q := congrArg nI (ot_m_ext h)
theorem ot_K_bt (P : Nat → Bool) (i : Nat) : bt (ot_K P) i = (decide (i < 12) && P i) := by
  show (BitVec.ofNat 32 (ot_m P 12)).getLsbD i = _
  rw [BitVec.getLsbD_ofNat, ot_m_tb]
  by_cases h : i < 12
  · simp [h, show i < 32 by omega]
  · simp [h]
theorem ot_K_and (P Q : Nat → Bool) : ot_K P &&& ot_K Q = ot_K (fun c => P c && Q c) := by
  apply b_ext
  intro i hi
  rw [b_and, ot_K_bt, ot_K_bt, ot_K_bt]
  cases decide (i < 12) <;> simp
theorem ot_K_or (P Q : Nat → Bool) : ot_K P ||| ot_K Q = ot_K (fun c => P c || Q c) := by
  apply b_ext
  intro i hi
  rw [b_or, ot_K_bt, ot_K_bt, ot_K_bt]
  cases decide (i < 12) <;> simp
theorem ot_K_andn (P Q : Nat → Bool) : ot_K P &&& (ot_K Q ^^^ (-1)) = ot_K (fun c => P c && !Q c) := by
  apply b_ext
  intro i hi
  rw [b_and, b_xor, ot_K_bt, ot_K_bt, ot_K_bt, b_m1 i hi]
  cases decide (i < 12) <;> simp
theorem ot_1 : ∀ c, c < 12 → (1 : Int32) <<< (nI c &&& 31) = ot_K (fun i => i == c) := by decide +kernel
theorem ot_15 : ∀ s, s < 3 → (15 : Int32) <<< (nI (s * 4) &&& 31) = ot_K (fun i => i / 4 == s) := by decide +kernel
theorem ot_K_bit (P : Nat → Bool) {c : Nat} (hc : c < 12) : (ot_K P >>> (nI c &&& 31)) &&& 1 = nI (if P c = true then 1 else 0) := by
  unfold ot_K
  have hm := ot_m_4096 P
  have ht := ot_m_tb P 12 c
  rw [decide_eq_true hc, Bool.true_and, Nat.testBit_eq_decide_div_mod_eq] at ht
  rw [pk_shrN (by omega) _ c (s_l c (by omega))]
  show nI _ &&& nI 1 = _
  rw [nx_and, Nat.and_one_is_mod]
  generalize ot_m P 12 / 2 ^ c = z at ht ⊢
  by_cases hp : P c = true
  · rw [hp, decide_eq_true_eq] at ht
    rw [if_pos hp, ht]
  · have hp' : P c = false := by simpa using hp
    rw [hp', decide_eq_false_iff_not] at ht
    rw [if_neg hp]
    exact congrArg nI (by omega)
theorem ot_K_0 (P : Nat → Bool) : ot_K P = 0 ↔ ∀ c, c < 12 → P c = false := by
  unfold ot_K
  have hm := ot_m_4096 P
  rw [← nI_0, nI_eq (by omega) (by omega)]
  constructor
  · intro h c hc
    have ht := ot_m_tb P 12 c
    rw [h, decide_eq_true hc] at ht
    simpa using ht.symm
  · intro h
    apply Nat.eq_of_testBit_eq
    intro i
    rw [ot_m_tb]
    by_cases hi : i < 12
    · simp [h i hi]
    · simp [hi]
theorem ot_K_none : ot_K (fun _ => false) = 0 := (ot_K_0 _).mpr (fun _ _ => rfl)
/-! counts -/
def ot_c (P : Nat → Bool) : Nat → Nat
  | 0 => 0
  | n + 1 => ot_c P n + (if P n = true then 1 else 0)
theorem ot_c_ext {P Q : Nat → Bool} {n : Nat} (h : ∀ c, c < n → P c = Q c) : ot_c P n = ot_c Q n := by
  induction n with
  | zero => rfl
  | succ n ih =>
    rw [ot_c, ot_c, ih (fun c hc => h c (by omega)), h n (by omega)]
theorem ot_c_le (P : Nat → Bool) (n : Nat) : ot_c P n ≤ n := by
  induction n with
  | zero => exact Nat.le_refl _
  | succ n ih =>
    rw [ot_c]
    split <;> omega
theorem ot_c_mono {P Q : Nat → Bool} {n : Nat} (h : ∀ c, c < n → P c = true → Q c = true) : ot_c P n ≤ ot_c Q n := by
  induction n with
  | zero => exact Nat.le_refl _
  | succ n ih =>
    have := ih (fun c hc => h c (by omega))
    have h2 := h n (by omega)
    rw [ot_c, ot_c]
    by_cases hp : P n = true
    · rw [if_pos hp, if_pos (h2 hp)]; omega
    · rw [if_neg hp]; omega
theorem ot_c_0 {P : Nat → Bool} {n : Nat} : ot_c P n = 0 ↔ ∀ c, c < n → P c = false := by
  induction n with
  | zero => simp [ot_c]
  | succ n ih =>
    rw [ot_c]
    constructor
    · intro h c hc
      by_cases hp : P n = true
      · rw [if_pos hp] at h; omega
      · rw [if_neg hp] at h
        by_cases hcn : c = n
        · subst hcn; simpa using hp
        · exact ih.mp (by omega) c (by omega)
    · intro h
      rw [ih.mpr (fun c hc => h c (by omega)), h n (by omega)]
      rfl
theorem ot_c_drop {P Q : Nat → Bool} {n x : Nat} (hx : x < n) (h : ∀ c, c < n → c ≠ x → Q c = P c) (hp : P x = true) (hq : Q x = false) : ot_c Q n + 1 = ot_c P n := by
  induction n with
  | zero => omega
  | succ n ih =>
    rw [ot_c, ot_c]
    by_cases hxn : x = n
    · subst hxn
      rw [ot_c_ext (n := x) (P := Q) (Q := P) (fun c hc => h c (by omega) (by omega)), hp, hq]
      rfl
    · have := ih (by omega) (fun c hc hne => h c (by omega) hne)
      rw [h n (by omega) (fun z => hxn z.symm)]
      omega
/-! the list of the cards of a set, in order -/
def ot_bl (P : Nat → Bool) : List Nat := (List.range' 0 12).filter P
theorem ot_fr (P : Nat → Bool) : ∀ (n s c : Nat) (cs : List Nat), (List.range' s n).filter P = c :: cs →
    s ≤ c ∧ c < s + n ∧ P c = true ∧ (∀ j, s ≤ j → j < c → P j = false) ∧ (List.range' s n).filter (fun i => P i && !(i == c)) = cs := by
  intro n
  induction n with
  | zero => intro s c cs h; simp at h
  | succ n ih =>
    intro s c cs h
    rw [List.range'_succ] at h ⊢
    by_cases hp : P s = true
    · rw [List.filter_cons_of_pos hp] at h
      obtain ⟨h1, h2⟩ := List.cons.inj h
      subst h1
      refine ⟨Nat.le_refl _, by omega, hp, fun j h1 h2 => by omega, ?_⟩
      rw [List.filter_cons_of_neg (by simp), ← h2]
      apply List.filter_congr
      intro x hx
      rw [List.mem_range'_1] at hx
      have : (x == s) = false := by simp; omega
      rw [this]; simp
    · rw [List.filter_cons_of_neg hp] at h
      obtain ⟨h1, h2, h3, h4, h5⟩ := ih (s + 1) c cs h
      refine ⟨by omega, by omega, h3, fun j a b => ?_, ?_⟩
      · by_cases hj : j = s
        · subst hj; simpa using hp
        · exact h4 j (by omega) b
      · rw [List.filter_cons_of_neg (by simp [hp])]
        exact h5
theorem ot_bl_cons {P : Nat → Bool} {c : Nat} {cs : List Nat} (h : ot_bl P = c :: cs) : c < 12 ∧ P c = true ∧ (∀ j, j < c → P j = false) ∧ ot_bl (fun i => P i && !(i == c)) = cs := by
  obtain ⟨_, h2, h3, h4, h5⟩ := ot_fr P 12 0 c cs h
  exact ⟨by omega, h3, fun j hj => h4 j (by omega) hj, h5⟩
theorem ot_bl_mem {P : Nat → Bool} {c : Nat} : c ∈ ot_bl P ↔ c < 12 ∧ P c = true := by
  unfold ot_bl
  rw [List.mem_filter, List.mem_range'_1]
  constructor
  · rintro ⟨h1, h2⟩; exact ⟨by omega, h2⟩
  · rintro ⟨h1, h2⟩; exact ⟨by omega, h2⟩
theorem ot_bl_nil {P : Nat → Bool} : ot_bl P = [] ↔ ∀ c, c < 12 → P c = false := by
  constructor
  · intro h c hc
    cases hp : P c with
    | false => rfl
    | true =>
      have : c ∈ ot_bl P := ot_bl_mem.mpr ⟨hc, hp⟩
      rw [h] at this
      cases this
  · intro h
    cases hb : ot_bl P with
    | nil => rfl
    | cons c cs =>
      obtain ⟨h1, h2, _⟩ := ot_bl_cons hb
      rw [h c h1] at h2
      cases h2
theorem ot_bl_len (P : Nat → Bool) : (ot_bl P).length = ot_c P 12 := by
  have : ∀ n, ((List.range n).filter P).length = ot_c P n := by
    intro n
    induction n with
    | zero => rfl
    | succ n ih =>
      rw [List.range_succ, List.filter_append, List.length_append, ih, ot_c]
      by_cases hp : P n = true
      · simp [hp]
      · simp [hp]
  unfold ot_bl
  rw [← List.range_eq_range']
  exact this 12
theorem ot_bl_lt (P : Nat → Bool) : (ot_bl P).Pairwise (· < ·) := by
  unfold ot_bl
  rw [← List.range_eq_range']
  exact List.Pairwise.filter _ List.pairwise_lt_range
end
section
/-! the game: a history of cards (newest first) over a deal b, a first leader q0, trumps t -/
def ot_h (b : Nat → Nat) : List Nat → Nat → Nat
  | [] => b
  | x :: l => fun c => if c = x then 4 else ot_h b l c
def ot_p : List Nat → Nat → Nat
  | [] => fun _ => 0
  | x :: l => fun i => if i = l.length then x else ot_p l i
def ot_b (t : Int32) (c top : Nat) : Bool := if c / 4 = top / 4 then decide (top < c) else decide (nI (c / 4) = t)
def ot_tp (t : Int32) (f : Nat → Nat) (s : Nat) : Nat → Nat
  | 0 => s
  | j + 1 => if ot_b t (f (s + j + 1)) (f (ot_tp t f s j)) = true then s + j + 1 else ot_tp t f s j
def ot_l (q0 : Nat) (t : Int32) : List Nat → Nat → Nat
  | [] => fun _ => q0
  | x :: l => fun k => if (l.length + 1) % 4 = 0 ∧ k = (l.length + 1) / 4 then (ot_l q0 t l (k - 1) + (ot_tp t (ot_p (x :: l)) (4 * (k - 1)) 3 - 4 * (k - 1))) % 4 else ot_l q0 t l k
def ot_t (q0 : Nat) (t : Int32) (l : List Nat) : Nat := (ot_l q0 t l (l.length / 4) + l.length % 4) % 4
def ot_f (b : Nat → Nat) (q0 : Nat) (t : Int32) (l : List Nat) : Nat → Bool := fun c => ot_h b l c == ot_t q0 t l && c / 4 == ot_p l (l.length - l.length % 4) / 4
def ot_g (b : Nat → Nat) (q0 : Nat) (t : Int32) (l : List Nat) : Nat → Bool :=
  if l.length % 4 = 0 then (fun c => ot_h b l c == ot_t q0 t l)
  else if ot_K (ot_f b q0 t l) = 0 then (fun c => ot_h b l c == ot_t q0 t l)
  else ot_f b q0 t l
def ot_ok (b : Nat → Nat) (q0 : Nat) (t : Int32) : List Nat → Prop
  | [] => True
  | c :: l => ot_ok b q0 t l ∧ c < 12 ∧ ot_g b q0 t l c = true
def ot_w (q0 : Nat) (t : Int32) (l : List Nat) (s : Nat) : Nat → Nat
  | 0 => 0
  | k + 1 => ot_w q0 t l s k + (if ot_l q0 t l (k + 1) % 2 = s then 1 else 0)
theorem ot_tp_in (t : Int32) (f : Nat → Nat) (s j : Nat) : s ≤ ot_tp t f s j ∧ ot_tp t f s j ≤ s + j := by
  induction j with
  | zero => exact ⟨Nat.le_refl _, Nat.le_refl _⟩
  | succ j ih =>
    rw [ot_tp]
    split <;> omega
theorem ot_tp_ext {t : Int32} {f g : Nat → Nat} {s : Nat} : ∀ j, (∀ i, s ≤ i → i ≤ s + j → f i = g i) → ot_tp t f s j = ot_tp t g s j := by
  intro j
  induction j with
  | zero => intro _; rfl
  | succ j ih =>
    intro h
    have e := ih (fun i h1 h2 => h i h1 (by omega))
    have hi := ot_tp_in t g s j
    rw [ot_tp, ot_tp, e, h (s + j + 1) (by omega) (by omega), h (ot_tp t g s j) (by omega) (by omega)]
theorem ot_h_or (b : Nat → Nat) (l : List Nat) (c : Nat) : ot_h b l c = 4 ∨ ot_h b l c = b c := by
  induction l with
  | nil => exact Or.inr rfl
  | cons x l ih =>
    show (if c = x then 4 else ot_h b l c) = 4 ∨ (if c = x then 4 else ot_h b l c) = b c
    by_cases h : c = x
    · rw [if_pos h]; exact Or.inl rfl
    · rw [if_neg h]; exact ih
theorem ot_h_le {b : Nat → Nat} (hb : ∀ c, c < 12 → b c ≤ 4) (l : List Nat) {c : Nat} (hc : c < 12) : ot_h b l c ≤ 4 := by
  have := hb c hc
  rcases ot_h_or b l c with h | h <;> omega
theorem ot_p_cons {x : Nat} {l : List Nat} {i : Nat} (h : i < l.length) : ot_p (x :: l) i = ot_p l i := if_neg (by omega)
theorem ot_p_top (x : Nat) (l : List Nat) : ot_p (x :: l) l.length = x := if_pos rfl
theorem ot_p_lt {b : Nat → Nat} {q0 : Nat} {t : Int32} : ∀ {l : List Nat}, ot_ok b q0 t l → ∀ i, ot_p l i < 12 := by
  intro l
  induction l with
  | nil => intro _ i; exact (by decide : 0 < 12)
  | cons x l ih =>
    intro h i
    show (if i = l.length then x else ot_p l i) < 12
    by_cases hi : i = l.length
    · rw [if_pos hi]; exact h.2.1
    · rw [if_neg hi]; exact ih h.1 i
theorem ot_l_lt {q0 : Nat} (hq : q0 < 4) (t : Int32) : ∀ (l : List Nat) (k : Nat), ot_l q0 t l k < 4 := by
  intro l
  induction l with
  | nil => intro k; exact hq
  | cons x l ih =>
    intro k
    unfold ot_l
    by_cases h : (l.length + 1) % 4 = 0 ∧ k = (l.length + 1) / 4
    · rw [if_pos h]; omega
    · rw [if_neg h]; exact ih k
theorem ot_l_cons {q0 : Nat} {t : Int32} {x : Nat} {l : List Nat} {k : Nat} (h : k ≤ l.length / 4) : ot_l q0 t (x :: l) k = ot_l q0 t l k := by
  rw [ot_l]
  exact if_neg (by omega)
theorem ot_l_top {q0 : Nat} {t : Int32} {x : Nat} {l : List Nat} (h : (l.length + 1) % 4 = 0) : ot_l q0 t (x :: l) ((l.length + 1) / 4) = (ot_l q0 t l (l.length / 4) + (ot_tp t (ot_p (x :: l)) (4 * (l.length / 4)) 3 - 4 * (l.length / 4))) % 4 := by
  have e : (l.length + 1) / 4 - 1 = l.length / 4 := by omega
  show (if (l.length + 1) % 4 = 0 ∧ (l.length + 1) / 4 = (l.length + 1) / 4 then _ else _) = _
  rw [if_pos ⟨h, rfl⟩, e]
theorem ot_l_next {q0 : Nat} {t : Int32} : ∀ (l : List Nat) (k : Nat), 4 * (k + 1) ≤ l.length → ot_l q0 t l (k + 1) = (ot_l q0 t l k + (ot_tp t (ot_p l) (4 * k) 3 - 4 * k)) % 4 := by
  intro l
  induction l with
  | nil => intro k h; exact absurd h (by simp)
  | cons x l ih =>
    intro k h
    have hl : (x :: l).length = l.length + 1 := rfl
    by_cases h2 : 4 * (k + 1) = l.length + 1
    · have e1 : (l.length + 1) / 4 = k + 1 := by omega
      have e2 : l.length / 4 = k := by omega
      have := ot_l_top (q0 := q0) (t := t) (x := x) (l := l) (by omega)
      rw [e1, e2] at this
      rw [this, ot_l_cons (k := k) (by omega)]
    · rw [ot_l_cons (by omega), ot_l_cons (by omega), ih k (by omega), ot_tp_ext (f := ot_p (x :: l)) (g := ot_p l) 3 (fun i h3 h4 => ot_p_cons (by omega))]
theorem ot_t_lt (q0 : Nat) (t : Int32) (l : List Nat) : ot_t q0 t l < 4 := Nat.mod_lt _ (by decide)
theorem ot_g_h {b : Nat → Nat} {q0 : Nat} {t : Int32} {l : List Nat} {c : Nat} (h : ot_g b q0 t l c = true) : ot_h b l c = ot_t q0 t l := by
  unfold ot_g at h
  by_cases h1 : l.length % 4 = 0
  · rw [if_pos h1] at h; simpa using h
  · rw [if_neg h1] at h
    by_cases h2 : ot_K (ot_f b q0 t l) = 0
    · rw [if_pos h2] at h; simpa using h
    · rw [if_neg h2] at h
      simp only [ot_f, Bool.and_eq_true, beq_iff_eq] at h
      exact h.1
theorem ot_g_b {b : Nat → Nat} {q0 : Nat} {t : Int32} {l : List Nat} {c : Nat} (h : ot_g b q0 t l c = true) : b c = ot_t q0 t l ∧ ot_h b l c = b c := by
  have h1 := ot_g_h h
  have h2 := ot_t_lt q0 t l
  rcases ot_h_or b l c with h3 | h3
  · omega
  · exact ⟨by omega, h3⟩
/-- how many cards player p has left -/
theorem ot_cnt {b : Nat → Nat} {q0 : Nat} {t : Int32} {e : Nat} (hq : q0 < 4) (he : ∀ p, p < 4 → ot_c (fun c => b c == p) 12 = e) :
    ∀ l : List Nat, ot_ok b q0 t l → ∀ p, p < 4 → ot_c (fun c => ot_h b l c == p) 12 + l.length / 4 + (if (p + 4 - ot_l q0 t l (l.length / 4)) % 4 < l.length % 4 then 1 else 0) = e := by
  intro l
  induction l with
  | nil =>
    intro _ p hp
    have := he p hp
    have h0 : ¬ ((p + 4 - ot_l q0 t [] (([] : List Nat).length / 4)) % 4 < ([] : List Nat).length % 4) := by
      simp
    rw [if_neg h0]
    simpa [ot_h] using this
  | cons x l ih =>
    intro hok p hp
    have hg := ot_g_h hok.2.2
    have hx := hok.2.1
    have hl := ot_l_lt hq t l (l.length / 4)
    have hl' := ot_l_lt hq t (x :: l) ((l.length + 1) / 4)
    have hi := ih hok.1 p hp
    have ht : ot_t q0 t l = (ot_l q0 t l (l.length / 4) + l.length % 4) % 4 := rfl
    have hL : (x :: l).length = l.length + 1 := rfl
    rw [hL]
    have hc : ot_c (fun c => ot_h b (x :: l) c == p) 12 + (if p = ot_t q0 t l then 1 else 0) = ot_c (fun c => ot_h b l c == p) 12 := by
      by_cases hpt : p = ot_t q0 t l
      · rw [if_pos hpt]
        apply ot_c_drop hx
        · intro c _ hne
          show ((if c = x then 4 else ot_h b l c) == p) = _
          rw [if_neg hne]
        · rw [hg, hpt]; simp
        · show ((if x = x then 4 else ot_h b l x) == p) = false
          rw [if_pos rfl]; simp; omega
      · rw [if_neg hpt]
        apply ot_c_ext
        intro c _
        show ((if c = x then 4 else ot_h b l c) == p) = _
        by_cases hne : c = x
        · rw [if_pos hne, hne, hg]
          rw [Bool.eq_iff_iff]; simp; omega
        · rw [if_neg hne]
    generalize ot_c (fun c => ot_h b (x :: l) c == p) 12 = A at hc ⊢
    generalize ot_c (fun c => ot_h b l c == p) 12 = B at hc hi
    generalize ot_t q0 t l = T at ht hc
    by_cases hm : (l.length + 1) % 4 = 0
    · generalize ot_l q0 t (x :: l) ((l.length + 1) / 4) = L' at hl' ⊢
      generalize ot_l q0 t l (l.length / 4) = L at hl hi ht
      rw [if_neg (by omega)]
      by_cases hpt : p = T
      · rw [if_pos hpt] at hc
        rw [if_neg (by omega)] at hi
        omega
      · rw [if_neg hpt] at hc
        rw [if_pos (by omega)] at hi
        omega
    · have e1 : (l.length + 1) / 4 = l.length / 4 := by omega
      rw [e1, ot_l_cons (Nat.le_refl _)]
      generalize ot_l q0 t l (l.length / 4) = L at hl hi ht ⊢
      by_cases hpt : p = T
      · rw [if_pos hpt] at hc
        rw [if_neg (by omega)] at hi
        rw [if_pos (by omega)]
        omega
      · rw [if_neg hpt] at hc
        by_cases h3 : (p + 4 - L) % 4 < l.length % 4
        · rw [if_pos h3] at hi
          rw [if_pos (by omega)]
          omega
        · rw [if_neg h3] at hi
          rw [if_neg (by omega)]
          omega
/-- what stands at the player whose turn it is -/
theorem ot_cnt_t {b : Nat → Nat} {q0 : Nat} {t : Int32} {e : Nat} (hq : q0 < 4) (he : ∀ p, p < 4 → ot_c (fun c => b c == p) 12 = e) (l : List Nat) (hok : ot_ok b q0 t l) :
    ot_c (fun c => ot_h b l c == ot_t q0 t l) 12 + l.length / 4 = e := by
  have h := ot_cnt hq he l hok (ot_t q0 t l) (ot_t_lt q0 t l)
  have hl := ot_l_lt hq t l (l.length / 4)
  have ht : ot_t q0 t l = (ot_l q0 t l (l.length / 4) + l.length % 4) % 4 := rfl
  generalize ot_c (fun c => ot_h b l c == ot_t q0 t l) 12 = A at h ⊢
  generalize ot_t q0 t l = T at ht h
  generalize ot_l q0 t l (l.length / 4) = L at hl h ht
  rw [if_neg (by omega)] at h
  omega
theorem ot_g_le {b : Nat → Nat} {q0 : Nat} {t : Int32} {l : List Nat} : ot_c (ot_g b q0 t l) 12 ≤ ot_c (fun c => ot_h b l c == ot_t q0 t l) 12 :=
  ot_c_mono (fun c _ h => by rw [ot_g_h h]; simp)
/-- no card may be played: exactly when the player whose turn it is holds none -/
theorem ot_g_0 {b : Nat → Nat} {q0 : Nat} {t : Int32} {l : List Nat} : ot_K (ot_g b q0 t l) = 0 ↔ ot_c (fun c => ot_h b l c == ot_t q0 t l) 12 = 0 := by
  rw [ot_K_0, ot_c_0]
  unfold ot_g
  by_cases h1 : l.length % 4 = 0
  · rw [if_pos h1]
  · rw [if_neg h1]
    by_cases h2 : ot_K (ot_f b q0 t l) = 0
    · rw [if_pos h2]
    · rw [if_neg h2]
      constructor
      · intro h; exact absurd ((ot_K_0 _).mpr h) h2
      · intro h c hc
        have := h c hc
        simp only [ot_f, this, Bool.false_and]
/-- the end: the player at turn holds nothing, so nobody does -/
theorem ot_end {b : Nat → Nat} {q0 : Nat} {t : Int32} {e : Nat} (hq : q0 < 4) (he : ∀ p, p < 4 → ot_c (fun c => b c == p) 12 = e) (l : List Nat) (hok : ot_ok b q0 t l)
    (h0 : ot_c (fun c => ot_h b l c == ot_t q0 t l) 12 = 0) : ∀ p, p < 4 → ot_c (fun c => ot_h b l c == p) 12 = 0 := by
  intro p hp
  have h1 := ot_cnt_t hq he l hok
  have h2 := ot_cnt hq he l hok p hp
  omega
theorem ot_len {b : Nat → Nat} {q0 : Nat} {t : Int32} {e : Nat} (hq : q0 < 4) (he : ∀ p, p < 4 → ot_c (fun c => b c == p) 12 = e) (l : List Nat) (hok : ot_ok b q0 t l) : l.length ≤ 4 * e := by
  have hl := ot_l_lt hq t l (l.length / 4)
  have h1 := ot_cnt_t hq he l hok
  have h2 := ot_cnt hq he l hok (ot_l q0 t l (l.length / 4)) hl
  generalize ot_l q0 t l (l.length / 4) = L at hl h2
  have e0 : (L + 4 - L) % 4 = 0 := by omega
  rw [e0] at h2
  by_cases h3 : 0 < l.length % 4
  · rw [if_pos h3] at h2; omega
  · omega
/-- one may play: fewer than 4 e cards have been played -/
theorem ot_len_lt {b : Nat → Nat} {q0 : Nat} {t : Int32} {e : Nat} (hq : q0 < 4) (he : ∀ p, p < 4 → ot_c (fun c => b c == p) 12 = e) {c : Nat} {l : List Nat} (hok : ot_ok b q0 t (c :: l)) : l.length + 1 ≤ 4 * e :=
  ot_len hq he (c :: l) hok
theorem ot_w_le (q0 : Nat) (t : Int32) (l : List Nat) (s k : Nat) : ot_w q0 t l s k ≤ k := by
  induction k with
  | zero => exact Nat.le_refl _
  | succ k ih =>
    rw [ot_w]
    split <;> omega
end
section
/-! results of a situation: (value, choice, least, ways); M: what a search begins with for 'more than any result' -/
abbrev ot_A : Type := Int32 × Int32 × Int32 × Int32
def ot_be (T : Nat) (x y : Int32) : Bool := if T % 2 = 0 then decide (y < x) else decide (x < y)
def ot_st (T : Nat) (a r : ot_A) (c : Nat) : ot_A :=
  (if ot_be T r.1 a.1 = true then r.1 else a.1, if ot_be T r.1 a.1 = true then nI c else a.2.1, if r.2.2.1 < a.2.2.1 then r.2.2.1 else a.2.2.1, a.2.2.2 + r.2.2.2)
def ot_in (M : Int32) (T : Nat) : ot_A := (if T % 2 = 0 then -1 else M, -4, M, 0)
def ot_en (M : Int32) (b : Nat → Nat) (q0 : Nat) (t : Int32) (l : List Nat) : ot_A :=
  if ot_K (ot_g b q0 t l) = 0 then (nI (ot_w q0 t l 0 (l.length / 4)), -4, nI (ot_w q0 t l 0 (l.length / 4)), 1) else ot_in M (ot_t q0 t l)
def ot_rs (M : Int32) (b : Nat → Nat) (q0 : Nat) (t : Int32) : Nat → List Nat → ot_A
  | 0, l => ot_en M b q0 t l
  | D + 1, l => (ot_bl (ot_g b q0 t l)).foldl (fun a c => ot_st (ot_t q0 t l) a (ot_rs M b q0 t D (c :: l)) c) (ot_en M b q0 t l)
def ot_co (b : Nat → Nat) (q0 : Nat) (t : Int32) : Nat → List Nat → Nat
  | 0, _ => 0
  | D + 1, l => ((ot_bl (ot_g b q0 t l)).map (fun c => ot_co b q0 t D (c :: l) + 2)).sum
theorem ot_fold_ext {α β : Type} {f g : α → β → α} : ∀ (cs : List β) (a : α), (∀ c, c ∈ cs → ∀ a, f a c = g a c) → cs.foldl f a = cs.foldl g a := by
  intro cs
  induction cs with
  | nil => intro a _; rfl
  | cons c cs ih =>
    intro a h
    rw [List.foldl_cons, List.foldl_cons, h c (List.mem_cons_self ..) a]
    exact ih _ (fun x hx => h x (List.mem_cons_of_mem _ hx))
theorem ot_sum_le {f : Nat → Nat} {B : Nat} : ∀ cs : List Nat, (∀ c, c ∈ cs → f c ≤ B) → (cs.map f).sum ≤ cs.length * B := by
  intro cs
  induction cs with
  | nil => intro _; simp
  | cons c cs ih =>
    intro h
    have h1 := h c (List.mem_cons_self ..)
    have h2 := ih (fun x hx => h x (List.mem_cons_of_mem _ hx))
    rw [List.map_cons, List.sum_cons, List.length_cons, Nat.add_mul]
    omega
section
variable {b : Nat → Nat} {q0 : Nat} {t : Int32} {e : Nat}
theorem ot_full (hq : q0 < 4) (he : ∀ p, p < 4 → ot_c (fun c => b c == p) 12 = e) (he3 : e ≤ 3) {l : List Nat} (hok : ot_ok b q0 t l) (h : 12 ≤ l.length) : ot_K (ot_g b q0 t l) = 0 := by
  have h1 := ot_cnt_t hq he l hok
  rw [ot_g_0]
  omega
theorem ot_full_bl (hq : q0 < 4) (he : ∀ p, p < 4 → ot_c (fun c => b c == p) 12 = e) (he3 : e ≤ 3) {l : List Nat} (hok : ot_ok b q0 t l) (h : 12 ≤ l.length) : ot_bl (ot_g b q0 t l) = [] :=
  ot_bl_nil.mpr ((ot_K_0 _).mp (ot_full hq he he3 hok h))
theorem ot_ok_bl {l : List Nat} (hok : ot_ok b q0 t l) {c : Nat} (h : c ∈ ot_bl (ot_g b q0 t l)) : ot_ok b q0 t (c :: l) :=
  ⟨hok, (ot_bl_mem.mp h).1, (ot_bl_mem.mp h).2⟩
/-- the depth doesn't matter once it is great enough -/
theorem ot_rs_up (hq : q0 < 4) (he : ∀ p, p < 4 → ot_c (fun c => b c == p) 12 = e) (he3 : e ≤ 3) (M : Int32) : ∀ (D : Nat) (l : List Nat), ot_ok b q0 t l → 12 ≤ l.length + D → ot_rs M b q0 t (D + 1) l = ot_rs M b q0 t D l := by
  intro D
  induction D with
  | zero =>
    intro l hok h
    conv => lhs; rw [ot_rs]
    rw [ot_full_bl hq he he3 hok (by omega)]
    rfl
  | succ D ih =>
    intro l hok h
    rw [ot_rs]
    conv => rhs; rw [ot_rs]
    apply ot_fold_ext
    intro c hc a
    rw [ih (c :: l) (ot_ok_bl hok hc) (by simp only [List.length_cons]; omega)]
/-- how many steps a search takes -/
def ot_T : Nat → Nat
  | 0 => 0
  | D + 1 => (3 - (11 - D) / 4) * (ot_T D + 2)
theorem ot_co_le (hq : q0 < 4) (he : ∀ p, p < 4 → ot_c (fun c => b c == p) 12 = e) (he3 : e ≤ 3) : ∀ (D : Nat) (l : List Nat), ot_ok b q0 t l → l.length ≤ 12 → ot_co b q0 t D l ≤ ot_T (12 - l.length) := by
  intro D
  induction D with
  | zero => intro l _ _; exact Nat.zero_le _
  | succ D ih =>
    intro l hok h
    rw [ot_co]
    by_cases h12 : l.length = 12
    · rw [ot_full_bl hq he he3 hok (by omega)]
      exact Nat.zero_le _
    · obtain ⟨m, hm⟩ : ∃ m, 12 - l.length = m + 1 := ⟨11 - l.length, by omega⟩
      rw [hm, ot_T]
      have h1 : ((ot_bl (ot_g b q0 t l)).map (fun c => ot_co b q0 t D (c :: l) + 2)).sum ≤ (ot_bl (ot_g b q0 t l)).length * (ot_T m + 2) := by
        apply ot_sum_le
        intro c hc
        have h3 := ih (c :: l) (ot_ok_bl hok hc) (by simp only [List.length_cons]; omega)
        have h4 : 12 - (c :: l).length = m := by simp only [List.length_cons]; omega
        rw [h4] at h3
        omega
      have h2 : (ot_bl (ot_g b q0 t l)).length ≤ 3 - (11 - m) / 4 := by
        have h5 := ot_cnt_t hq he l hok
        have h6 := ot_g_le (b := b) (q0 := q0) (t := t) (l := l)
        rw [ot_bl_len]
        omega
      exact Nat.le_trans h1 (Nat.mul_le_mul_right _ h2)
theorem ot_T_12 : ∀ D, D ≤ 12 → ot_T D ≤ 15468 := by decide
/-- two results that agree, whatever the search began with -/
def ot_ag (x y : ot_A) : Prop := x.1 = y.1 ∧ x.2.2.1 = y.2.2.1 ∧ x.2.2.2 = y.2.2.2 ∧ (∃ j, j < 4 ∧ x.1 = nI j) ∧ (∃ j, j < 4 ∧ x.2.2.1 = nI j)
theorem ot_ag_st (T : Nat) {a a' r r' : ot_A} (c : Nat) (ha : ot_ag a a') (hr : ot_ag r r') : ot_ag (ot_st T a r c) (ot_st T a' r' c) := by
  obtain ⟨a1, a2, a3, a4, a5⟩ := ha
  obtain ⟨r1, r2, r3, r4, r5⟩ := hr
  unfold ot_st
  refine ⟨?_, ?_, ?_, ?_, ?_⟩
  · show (if ot_be T r.1 a.1 = true then r.1 else a.1) = (if ot_be T r'.1 a'.1 = true then r'.1 else a'.1)
    rw [a1, r1]
  · show (if r.2.2.1 < a.2.2.1 then r.2.2.1 else a.2.2.1) = (if r'.2.2.1 < a'.2.2.1 then r'.2.2.1 else a'.2.2.1)
    rw [a2, r2]
  · show a.2.2.2 + r.2.2.2 = a'.2.2.2 + r'.2.2.2
    rw [a3, r3]
  · show ∃ j, j < 4 ∧ (if ot_be T r.1 a.1 = true then r.1 else a.1) = nI j
    split
    · exact r4
    · exact a4
  · show ∃ j, j < 4 ∧ (if r.2.2.1 < a.2.2.1 then r.2.2.1 else a.2.2.1) = nI j
    split
    · exact r5
    · exact a5
theorem ot_lt4 : ∀ j, j < 4 → (-1 : Int32) < nI j ∧ nI j < 4 ∧ nI j < 100 := by decide
theorem ot_be_in {M : Int32} (T : Nat) {x : Int32} (h1 : (-1 : Int32) < x) (h2 : x < M) : ot_be T x (ot_in M T).1 = true := by
  show (if T % 2 = 0 then decide ((if T % 2 = 0 then -1 else M) < x) else decide (x < (if T % 2 = 0 then -1 else M))) = true
  by_cases h : T % 2 = 0
  · rw [if_pos h, if_pos h]; exact decide_eq_true h1
  · rw [if_neg h, if_neg h]; exact decide_eq_true h2
theorem ot_st_in {M : Int32} (T : Nat) {r : ot_A} (c : Nat) (h1 : (-1 : Int32) < r.1) (h2 : r.1 < M) (h3 : r.2.2.1 < M) : ot_st T (ot_in M T) r c = (r.1, nI c, r.2.2.1, 0 + r.2.2.2) := by
  unfold ot_st
  rw [if_pos (ot_be_in T h1 h2), if_pos (ot_be_in T h1 h2)]
  show (_, _, (if r.2.2.1 < M then r.2.2.1 else M), _) = _
  rw [if_pos h3]
  rfl
theorem ot_ag_in (T : Nat) {r r' : ot_A} (c : Nat) (hr : ot_ag r r') : ot_ag (ot_st T (ot_in 4 T) r c) (ot_st T (ot_in 100 T) r' c) := by
  obtain ⟨r1, r2, r3, ⟨j, hj, ej⟩, ⟨i, hi, ei⟩⟩ := hr
  have hj' := ot_lt4 j hj
  have hi' := ot_lt4 i hi
  rw [ot_st_in T c (by rw [ej]; exact hj'.1) (by rw [ej]; exact hj'.2.1) (by rw [ei]; exact hi'.2.1),
    ot_st_in T c (by rw [← r1, ej]; exact hj'.1) (by rw [← r1, ej]; exact hj'.2.2) (by rw [← r2, ei]; exact hi'.2.2)]
  refine ⟨r1, r2, ?_, ⟨j, hj, ej⟩, ⟨i, hi, ei⟩⟩
  show 0 + r.2.2.2 = 0 + r'.2.2.2
  rw [r3]
theorem ot_ag_fold (T : Nat) (f f' : Nat → ot_A) : ∀ (cs : List Nat) (a a' : ot_A), (∀ c, c ∈ cs → ot_ag (f c) (f' c)) → ot_ag a a' →
    ot_ag (cs.foldl (fun a c => ot_st T a (f c) c) a) (cs.foldl (fun a c => ot_st T a (f' c) c) a') := by
  intro cs
  induction cs with
  | nil => intro a a' _ h; exact h
  | cons c cs ih =>
    intro a a' h ha
    rw [List.foldl_cons, List.foldl_cons]
    exact ih _ _ (fun x hx => h x (List.mem_cons_of_mem _ hx)) (ot_ag_st T c ha (h c (List.mem_cons_self ..)))
theorem ot_ag_end (hq : q0 < 4) (he : ∀ p, p < 4 → ot_c (fun c => b c == p) 12 = e) (he3 : e ≤ 3) {l : List Nat} (hok : ot_ok b q0 t l) (h : ot_K (ot_g b q0 t l) = 0) : ot_ag (ot_en 4 b q0 t l) (ot_en 100 b q0 t l) := by
  have hl := ot_len hq he l hok
  have hw := ot_w_le q0 t l 0 (l.length / 4)
  unfold ot_en
  rw [if_pos h, if_pos h]
  exact ⟨rfl, rfl, rfl, ⟨_, by omega, rfl⟩, ⟨_, by omega, rfl⟩⟩
theorem ot_ag_rs (hq : q0 < 4) (he : ∀ p, p < 4 → ot_c (fun c => b c == p) 12 = e) (he3 : e ≤ 3) : ∀ (D : Nat) (l : List Nat), ot_ok b q0 t l → 12 ≤ l.length + D → ot_ag (ot_rs 4 b q0 t D l) (ot_rs 100 b q0 t D l) := by
  intro D
  induction D with
  | zero =>
    intro l hok h
    exact ot_ag_end hq he he3 hok (ot_full hq he he3 hok (by omega))
  | succ D ih =>
    intro l hok h
    rw [ot_rs, ot_rs]
    have hc : ∀ c, c ∈ ot_bl (ot_g b q0 t l) → ot_ag (ot_rs 4 b q0 t D (c :: l)) (ot_rs 100 b q0 t D (c :: l)) :=
      fun c hc => ih (c :: l) (ot_ok_bl hok hc) (by simp only [List.length_cons]; omega)
    cases hb : ot_bl (ot_g b q0 t l) with
    | nil => exact ot_ag_end hq he he3 hok ((ot_K_0 _).mpr (ot_bl_nil.mp hb))
    | cons c cs =>
      rw [hb] at hc
      have hn : ¬ ot_K (ot_g b q0 t l) = 0 := by
        intro z
        rw [ot_bl_nil.mpr ((ot_K_0 _).mp z)] at hb
        cases hb
      rw [List.foldl_cons, List.foldl_cons]
      apply ot_ag_fold (ot_t q0 t l) (fun c => ot_rs 4 b q0 t D (c :: l)) (fun c => ot_rs 100 b q0 t D (c :: l)) cs
      · exact fun x hx => hc x (List.mem_cons_of_mem _ hx)
      · have := ot_ag_in (ot_t q0 t l) c (hc c (List.mem_cons_self ..))
        unfold ot_en
        rw [if_neg hn, if_neg hn]
        exact this
/-! the choice is the least card of the best value -/
def ot_bs (T : Nat) (f : Nat → ot_A) (S : Nat → Prop) (a : ot_A) : Prop :=
  ∃ c, S c ∧ a.2.1 = nI c ∧ a.1 = (f c).1 ∧ (∀ x, S x → ot_be T (f x).1 a.1 = false) ∧ ∀ x, S x → x < c → ot_be T a.1 (f x).1 = true
theorem ot_be_tr {T : Nat} {x y z : Int32} (h1 : ot_be T z y = false) (h2 : ot_be T x y = true) : ot_be T x z = true := by
  unfold ot_be at *
  by_cases h : T % 2 = 0
  · rw [if_pos h] at *
    rw [decide_eq_false_iff_not] at h1
    rw [decide_eq_true_eq] at *
    rw [Int32.lt_iff_toInt_lt] at *
    omega
  · rw [if_neg h] at *
    rw [decide_eq_false_iff_not] at h1
    rw [decide_eq_true_eq] at *
    rw [Int32.lt_iff_toInt_lt] at *
    omega
theorem ot_be_irr (T : Nat) (x : Int32) : ot_be T x x = false := by
  unfold ot_be
  split <;> simp
theorem ot_be_as {T : Nat} {x y : Int32} (h : ot_be T x y = true) : ot_be T y x = false := by
  unfold ot_be at *
  by_cases h0 : T % 2 = 0
  · rw [if_pos h0] at *
    rw [decide_eq_true_eq] at h
    rw [decide_eq_false_iff_not]
    rw [Int32.lt_iff_toInt_lt] at *
    omega
  · rw [if_neg h0] at *
    rw [decide_eq_true_eq] at h
    rw [decide_eq_false_iff_not]
    rw [Int32.lt_iff_toInt_lt] at *
    omega
theorem ot_bs_st {T : Nat} {f : Nat → ot_A} {S : Nat → Prop} {a : ot_A} (h : ot_bs T f S a) {y : Nat} (hy : ∀ x, S x → x < y) : ot_bs T f (fun x => S x ∨ x = y) (ot_st T a (f y) y) := by
  obtain ⟨c, h1, h2, h3, h4, h5⟩ := h
  by_cases hb : ot_be T (f y).1 a.1 = true
  · have e : ot_st T a (f y) y = ((f y).1, nI y, if (f y).2.2.1 < a.2.2.1 then (f y).2.2.1 else a.2.2.1, a.2.2.2 + (f y).2.2.2) := by
      unfold ot_st
      rw [if_pos hb, if_pos hb]
    rw [e]
    refine ⟨y, Or.inr rfl, rfl, rfl, ?_, ?_⟩
    · intro x hx
      show ot_be T (f x).1 (f y).1 = false
      rcases hx with hx | hx
      · exact ot_be_as (ot_be_tr (h4 x hx) hb)
      · rw [hx]; exact ot_be_irr T _
    · intro x hx hxy
      show ot_be T (f y).1 (f x).1 = true
      rcases hx with hx | hx
      · exact ot_be_tr (h4 x hx) hb
      · omega
  · have e : ot_st T a (f y) y = (a.1, a.2.1, if (f y).2.2.1 < a.2.2.1 then (f y).2.2.1 else a.2.2.1, a.2.2.2 + (f y).2.2.2) := by
      unfold ot_st
      rw [if_neg hb, if_neg hb]
    rw [e]
    refine ⟨c, Or.inl h1, h2, h3, ?_, ?_⟩
    · intro x hx
      show ot_be T (f x).1 a.1 = false
      rcases hx with hx | hx
      · exact h4 x hx
      · rw [hx]; simpa using hb
    · intro x hx hxc
      show ot_be T a.1 (f x).1 = true
      rcases hx with hx | hx
      · exact h5 x hx hxc
      · have := hy c h1
        omega
theorem ot_bs_fold {T : Nat} {f : Nat → ot_A} : ∀ (cs : List Nat) (S : Nat → Prop) (a : ot_A), cs.Pairwise (· < ·) → (∀ x, S x → ∀ y, y ∈ cs → x < y) → ot_bs T f S a →
    ot_bs T f (fun x => S x ∨ x ∈ cs) (cs.foldl (fun a c => ot_st T a (f c) c) a) := by
  intro cs
  induction cs with
  | nil =>
    intro S a _ _ h
    obtain ⟨c, h1, h2, h3, h4, h5⟩ := h
    exact ⟨c, Or.inl h1, h2, h3, fun x hx => h4 x (by simpa using hx), fun x hx => h5 x (by simpa using hx)⟩
  | cons y cs ih =>
    intro S a hp hS h
    rw [List.pairwise_cons] at hp
    rw [List.foldl_cons]
    have h1 := ot_bs_st h (y := y) (fun x hx => hS x hx y (List.mem_cons_self ..))
    have h2 := ih (fun x => S x ∨ x = y) _ hp.2 (by
      intro x hx z hz
      rcases hx with hx | hx
      · exact hS x hx z (List.mem_cons_of_mem _ hz)
      · rw [hx]; exact hp.1 z hz) h1
    obtain ⟨c, g1, g2, g3, g4, g5⟩ := h2
    have hm : ∀ x, (S x ∨ x ∈ y :: cs) → ((S x ∨ x = y) ∨ x ∈ cs) := by
      intro x hx
      rcases hx with hx | hx
      · exact Or.inl (Or.inl hx)
      · rcases List.mem_cons.mp hx with hx | hx
        · exact Or.inl (Or.inr hx)
        · exact Or.inr hx
    refine ⟨c, ?_, g2, g3, fun x hx => g4 x (hm x hx), fun x hx => g5 x (hm x hx)⟩
    rcases g1 with (g1 | g1) | g1
    · exact Or.inl g1
    · exact Or.inr (by rw [g1]; exact List.mem_cons_self ..)
    · exact Or.inr (List.mem_cons_of_mem _ g1)
theorem ot_best (hq : q0 < 4) (he : ∀ p, p < 4 → ot_c (fun c => b c == p) 12 = e) (he3 : e ≤ 3) {l : List Nat} (hok : ot_ok b q0 t l) :
    (ot_K (ot_g b q0 t l) = 0 ∧ (ot_rs 4 b q0 t 12 l).2.1 = -4) ∨
    (∃ c, c < 12 ∧ ot_g b q0 t l c = true ∧ (ot_rs 4 b q0 t 12 l).2.1 = nI c ∧ (ot_rs 4 b q0 t 12 (c :: l)).1 = (ot_rs 4 b q0 t 12 l).1 ∧
      ∀ x, x < c → ot_g b q0 t l x = true → (ot_rs 4 b q0 t 12 (x :: l)).1 ≠ (ot_rs 4 b q0 t 12 l).1) := by
  have hup : ∀ x, x ∈ ot_bl (ot_g b q0 t l) → ot_rs 4 b q0 t 12 (x :: l) = ot_rs 4 b q0 t 11 (x :: l) :=
    fun x hx => ot_rs_up hq he he3 4 11 (x :: l) (ot_ok_bl hok hx) (by simp only [List.length_cons]; omega)
  have hrs : ot_rs 4 b q0 t 12 l = (ot_bl (ot_g b q0 t l)).foldl (fun a c => ot_st (ot_t q0 t l) a (ot_rs 4 b q0 t 11 (c :: l)) c) (ot_en 4 b q0 t l) := by
    rw [ot_rs]
  have hlt := ot_bl_lt (ot_g b q0 t l)
  have hag : ∀ c, c ∈ ot_bl (ot_g b q0 t l) → ot_ag (ot_rs 4 b q0 t 11 (c :: l)) (ot_rs 100 b q0 t 11 (c :: l)) :=
    fun c hc => ot_ag_rs hq he he3 11 (c :: l) (ot_ok_bl hok hc) (by simp only [List.length_cons]; omega)
  cases hb : ot_bl (ot_g b q0 t l) with
  | nil =>
    have h0 : ot_K (ot_g b q0 t l) = 0 := (ot_K_0 _).mpr (ot_bl_nil.mp hb)
    refine Or.inl ⟨h0, ?_⟩
    rw [hrs, hb]
    show (ot_en 4 b q0 t l).2.1 = -4
    unfold ot_en
    rw [if_pos h0]
  | cons y cs =>
    have hn : ¬ ot_K (ot_g b q0 t l) = 0 := by
      intro z
      rw [ot_bl_nil.mpr ((ot_K_0 _).mp z)] at hb
      cases hb
    have hen : ot_en 4 b q0 t l = ot_in 4 (ot_t q0 t l) := by
      unfold ot_en
      rw [if_neg hn]
    rw [hb] at hlt hag
    rw [List.pairwise_cons] at hlt
    obtain ⟨_, _, _, ⟨j, hj, ej⟩, ⟨i, hi, ei⟩⟩ := hag y (List.mem_cons_self ..)
    have h0 : ot_bs (ot_t q0 t l) (fun c => ot_rs 4 b q0 t 11 (c :: l)) (fun x => x = y) (ot_st (ot_t q0 t l) (ot_en 4 b q0 t l) (ot_rs 4 b q0 t 11 (y :: l)) y) := by
      rw [hen, ot_st_in _ _ (by rw [ej]; exact (ot_lt4 j hj).1) (by rw [ej]; exact (ot_lt4 j hj).2.1) (by rw [ei]; exact (ot_lt4 i hi).2.1)]
      refine ⟨y, rfl, rfl, rfl, ?_, ?_⟩
      · intro x hx
        rw [hx]
        exact ot_be_irr _ _
      · intro x hx hxy
        omega
    have h1 := ot_bs_fold cs (fun x => x = y) _ hlt.2 (fun x hx z hz => by rw [hx]; exact hlt.1 z hz) h0
    have hv : cs.foldl (fun a c => ot_st (ot_t q0 t l) a (ot_rs 4 b q0 t 11 (c :: l)) c) (ot_st (ot_t q0 t l) (ot_en 4 b q0 t l) (ot_rs 4 b q0 t 11 (y :: l)) y) = ot_rs 4 b q0 t 12 l := by
      rw [hrs, hb, List.foldl_cons]
    rw [hv] at h1
    obtain ⟨c, g1, g2, g3, g4, g5⟩ := h1
    have hmem : c ∈ ot_bl (ot_g b q0 t l) := by
      rw [hb]
      rcases g1 with g1 | g1
      · rw [g1]; exact List.mem_cons_self ..
      · exact List.mem_cons_of_mem _ g1
    have hcm := ot_bl_mem.mp hmem
    refine Or.inr ⟨c, hcm.1, hcm.2, g2, ?_, ?_⟩
    · rw [hup c hmem]; exact g3.symm
    · intro x hxc hgx hEq
      have hxm : x ∈ ot_bl (ot_g b q0 t l) := ot_bl_mem.mpr ⟨by omega, hgx⟩
      have hxs : x = y ∨ x ∈ cs := by
        rw [hb] at hxm
        exact List.mem_cons.mp hxm
      have := g5 x hxs hxc
      rw [hup x hxm] at hEq
      have e2 : ot_be (ot_t q0 t l) (ot_rs 4 b q0 t 12 l).1 (ot_rs 4 b q0 t 11 (x :: l)).1 = true := this
      rw [hEq, ot_be_irr] at e2
      cases e2
/-! a depth-first search by steps: V r u: from u, with r steps left, all is well; R l fs u: u stands at the history l with the rows fs, the newest first -/
theorem ot_dfs {σ : Type} (hq : q0 < 4) (he : ∀ p, p < 4 → ot_c (fun c => b c == p) 12 = e) (he3 : e ≤ 3) (M : Int32) (B : Nat) (V : Nat → σ → Prop) (R : List Nat → List (List Nat × ot_A) → σ → Prop)
    (S1 : ∀ r l c cs a fs u, r < B → ot_ok b q0 t l → ot_ok b q0 t (c :: l) → R l ((c :: cs, a) :: fs) u →
      (∀ u', R (c :: l) ((ot_bl (ot_g b q0 t (c :: l)), ot_en M b q0 t (c :: l)) :: (cs, a) :: fs) u' → V r u') → V (r + 1) u)
    (S2 : ∀ r l c cs a a' fs u, r < B → ot_ok b q0 t (c :: l) → R (c :: l) (([], a') :: (cs, a) :: fs) u →
      (∀ u', R l ((cs, ot_st (ot_t q0 t l) a a' c) :: fs) u' → V r u') → V (r + 1) u) :
    ∀ (D : Nat) (l : List Nat), ot_ok b q0 t l → 12 ≤ l.length + D + 1 → ∀ cs : List Nat, (∀ c, c ∈ cs → ot_ok b q0 t (c :: l)) → ∀ (a : ot_A) (fs : List (List Nat × ot_A)) (r : Nat) (u : σ),
      r + (cs.map (fun c => ot_co b q0 t D (c :: l) + 2)).sum ≤ B → R l ((cs, a) :: fs) u →
      (∀ u', R l (([], cs.foldl (fun a c => ot_st (ot_t q0 t l) a (ot_rs M b q0 t D (c :: l)) c) a) :: fs) u' → V r u') →
      V (r + (cs.map (fun c => ot_co b q0 t D (c :: l) + 2)).sum) u := by
  intro D
  induction D with
  | zero =>
    intro l hok hl cs
    induction cs with
    | nil => intro _ a fs r u _ hR K; exact K u hR
    | cons c cs ih =>
      intro hcs a fs r u hB hR K
      have hc := hcs c (List.mem_cons_self ..)
      rw [List.map_cons, List.sum_cons] at hB ⊢
      have e1 : r + (ot_co b q0 t 0 (c :: l) + 2 + (cs.map (fun c => ot_co b q0 t 0 (c :: l) + 2)).sum) = (r + (cs.map (fun c => ot_co b q0 t 0 (c :: l) + 2)).sum + 1) + 1 := by
        rw [ot_co]; omega
      rw [e1] at hB ⊢
      refine S1 _ l c cs a fs u (by omega) hok hc hR (fun u1 h1 => ?_)
      rw [ot_full_bl hq he he3 hc (by simp only [List.length_cons]; omega)] at h1
      refine S2 _ l c cs a _ fs u1 (by omega) hc h1 (fun u2 h2 => ?_)
      exact ih (fun x hx => hcs x (List.mem_cons_of_mem _ hx)) _ fs r u2 (by omega) h2 K
  | succ D ihD =>
    intro l hok hl cs
    induction cs with
    | nil => intro _ a fs r u _ hR K; exact K u hR
    | cons c cs ih =>
      intro hcs a fs r u hB hR K
      have hc := hcs c (List.mem_cons_self ..)
      rw [List.map_cons, List.sum_cons] at hB ⊢
      have e1 : r + (ot_co b q0 t (D + 1) (c :: l) + 2 + (cs.map (fun c => ot_co b q0 t (D + 1) (c :: l) + 2)).sum) = (r + (cs.map (fun c => ot_co b q0 t (D + 1) (c :: l) + 2)).sum + 1 + ((ot_bl (ot_g b q0 t (c :: l))).map (fun x => ot_co b q0 t D (x :: c :: l) + 2)).sum) + 1 := by
        rw [ot_co]; omega
      rw [e1] at hB ⊢
      refine S1 _ l c cs a fs u (by omega) hok hc hR (fun u1 h1 => ?_)
      refine ihD (c :: l) hc (by simp only [List.length_cons]; omega) (ot_bl (ot_g b q0 t (c :: l))) (fun x hx => ot_ok_bl hc hx) _ _ _ u1 (by omega) h1 (fun u2 h2 => ?_)
      refine S2 _ l c cs a _ fs u2 (by omega) hc h2 (fun u3 h3 => ?_)
      exact ih (fun x hx => hcs x (List.mem_cons_of_mem _ hx)) _ fs r u3 (by omega) h3 K
end
end
section
/-! rows of a search in five arrays (which cards wait, value, choice, least, ways): the newest row first, at base + the number of the others -/
def ot_fr1 (U V C L W : Nat → Int32) (j : Nat) (f : List Nat × ot_A) : Prop :=
  (∃ P, U j = ot_K P ∧ ot_bl P = f.1) ∧ V j = f.2.1 ∧ C j = f.2.2.1 ∧ L j = f.2.2.2.1 ∧ W j = f.2.2.2.2
def ot_F (B : Nat) (U V C L W : Nat → Int32) : List (List Nat × ot_A) → Prop
  | [] => True
  | f :: fs => ot_fr1 U V C L W (B + fs.length) f ∧ ot_F B U V C L W fs
theorem ot_F_ext {B : Nat} {U V C L W U' V' C' L' W' : Nat → Int32} : ∀ {fs : List (List Nat × ot_A)}, (∀ i, i < B + fs.length → U' i = U i ∧ V' i = V i ∧ C' i = C i ∧ L' i = L i ∧ W' i = W i) →
    ot_F B U V C L W fs → ot_F B U' V' C' L' W' fs := by
  intro fs
  induction fs with
  | nil => intro _ _; exact True.intro
  | cons f fs ih =>
    intro h hF
    refine ⟨?_, ih (fun i hi => h i (by simp only [List.length_cons]; omega)) hF.2⟩
    obtain ⟨h1, h2, h3, h4, h5⟩ := h (B + fs.length) (by simp only [List.length_cons]; omega)
    unfold ot_fr1
    rw [h1, h2, h3, h4, h5]
    exact hF.1
/-- a store into one row at or above the newest leaves the others -/
theorem ot_u_ne {f : Nat → Int32} {k i : Nat} {x : Int32} (h : i < k) : upd f k x i = f i := pk_un (by omega)
/-- the newest row gets new contents -/
theorem ot_F_new {B : Nat} {U V C L W : Nat → Int32} {fs : List (List Nat × ot_A)} {u v c l w : Int32} {k : Nat} (hk : k = B + fs.length) (h : ot_F B U V C L W fs) {f : List Nat × ot_A}
    (hu : ∃ P, u = ot_K P ∧ ot_bl P = f.1) (hv : v = f.2.1) (hc : c = f.2.2.1) (hl : l = f.2.2.2.1) (hw : w = f.2.2.2.2) :
    ot_F B (upd U k u) (upd V k v) (upd C k c) (upd L k l) (upd W k w) (f :: fs) := by
  subst hk
  refine ⟨?_, ot_F_ext (fun i hi => ⟨ot_u_ne hi, ot_u_ne hi, ot_u_ne hi, ot_u_ne hi, ot_u_ne hi⟩) h⟩
  unfold ot_fr1
  rw [pk_us, pk_us, pk_us, pk_us, pk_us]
  exact ⟨hu, hv, hc, hl, hw⟩
/-- a card is taken out of the newest row's waiting cards -/
theorem ot_F_take {B : Nat} {U V C L W : Nat → Int32} {fs : List (List Nat × ot_A)} {c : Nat} {cs : List Nat} {a : ot_A} {k : Nat} {u : Int32} (hk : k = B + fs.length) (h : ot_F B U V C L W ((c :: cs, a) :: fs))
    (hu : ∀ P, U k = ot_K P → u = ot_K (fun i => P i && !(i == c))) : ot_F B (upd U k u) V C L W ((cs, a) :: fs) := by
  subst hk
  obtain ⟨⟨⟨P, h1, h2⟩, h3, h4, h5, h6⟩, h7⟩ := h
  refine ⟨⟨⟨_, by rw [pk_us]; exact hu P h1, (ot_bl_cons h2).2.2.2⟩, h3, h4, h5, h6⟩, ot_F_ext (fun i hi => ⟨ot_u_ne hi, rfl, rfl, rfl, rfl⟩) h7⟩
/-- the newest row's results change -/
theorem ot_F_mod {B : Nat} {U V C L W : Nat → Int32} {fs : List (List Nat × ot_A)} {cs : List Nat} {a a2 : ot_A} {k : Nat} (hk : k = B + fs.length) (h : ot_F B U V C L W ((cs, a) :: fs)) :
    ot_F B U (upd V k a2.1) (upd C k a2.2.1) (upd L k a2.2.2.1) (upd W k a2.2.2.2) ((cs, a2) :: fs) := by
  subst hk
  obtain ⟨⟨h1, h3, h4, h5, h6⟩, h7⟩ := h
  exact ⟨⟨h1, pk_us, pk_us, pk_us, pk_us⟩, ot_F_ext (fun i hi => ⟨rfl, ot_u_ne hi, ot_u_ne hi, ot_u_ne hi, ot_u_ne hi⟩) h7⟩
end
section
/-! the component against the game -/
def ot_E (b : Nat → Nat) (q0 e : Nat) : Prop := (∀ c, c < 12 → b c ≤ 4) ∧ q0 < 4 ∧ (∀ p, p < 4 → ot_c (fun c => b c == p) 12 = e) ∧ e ≤ 3 ∧ 1 ≤ e
def ot_X (b : Nat → Nat) (q0 : Nat) (t : Int32) (l : List Nat) (xg xp : Int32) (xd xy xl : Nat → Int32) : Prop :=
  xg = ot_K (fun c => !(ot_h b l c == b c)) ∧ xp = nI l.length ∧ (∀ p, p < 4 → xd p = ot_K (fun c => b c == p)) ∧ (∀ i, i < l.length → xy i = nI (ot_p l i)) ∧ (∀ k, k ≤ l.length / 4 → xl k = nI (ot_l q0 t l k))
theorem ot_ge {v : Int32} {n : Nat} (hn : n + 1 < 2 ^ 31) (h : nI (n + 1) ≤ v) : nI n < v := by
  rw [Int32.le_iff_toInt_le, nI_toInt hn] at h
  rw [Int32.lt_iff_toInt_lt, nI_toInt (by omega)]
  omega
theorem ot_upd_self {f : Nat → Int32} {k : Nat} {x : Int32} (h : f k = x) : upd f k x = f := by
  funext i
  by_cases hi : i = k
  · rw [hi, pk_us, h]
  · rw [pk_un hi]
section
variable {b : Nat → Nat} {q0 : Nat} {t : Int32} {e : Nat} {l : List Nat} {xg xo xp : Int32} {xd xy xl xu xv xc xs xw : Nat → Int32}
theorem ot_E_len (E : ot_E b q0 e) (hok : ot_ok b q0 t l) : l.length ≤ 12 := by
  have h1 := ot_len E.2.1 E.2.2.1 l hok
  have h2 := E.2.2.2.1
  omega
theorem ox_turn (E : ot_E b q0 e) (hok : ot_ok b q0 t l) (H : ot_X b q0 t l xg xp xd xy xl) {post : Int32 → Prop} (K : post (nI (ot_t q0 t l))) : wpX_turn post (xg, xo, t, xp, xd, xy, xl, xu, xv, xc, xs, xw) := by
  have hn := ot_E_len E hok
  have hl := ot_l_lt E.2.1 t l (l.length / 4)
  have e1 : xp / 4 = nI (l.length / 4) := by rw [H.2.1]; exact pk_div (d := 4) (by omega) (by decide) (by decide)
  have e2 : xp - xp / 4 * 4 = nI (l.length % 4) := by rw [H.2.1]; exact pk_rem (d := 4) (by omega) (by decide) (by decide)
  have e3 : xl (xp / 4).toNatClampNeg = nI (ot_l q0 t l (l.length / 4)) := by rw [e1, nI_clamp (by omega)]; exact H.2.2.2.2 _ (Nat.le_refl _)
  have e4 : (xl (xp / 4).toNatClampNeg + (xp - xp / 4 * 4)) - (xl (xp / 4).toNatClampNeg + (xp - xp / 4 * 4)) / 4 * 4 = nI (ot_t q0 t l) := by
    rw [e3, e2, nI_add]
    exact pk_rem (d := 4) (by omega) (by decide) (by decide)
  refine And.intro (by decide) (And.intro ?_ (And.intro (by decide) (And.intro (by decide) ?_)))
  · rw [e1]; exact vp_in_nI (by omega) (by decide)
  · rw [e4]; exact K
theorem ot_heldK (H : ot_X b q0 t l xg xp xd xy xl) {p : Nat} (hp : p < 4) : xd p &&& (xg ^^^ (-1)) = ot_K (fun c => ot_h b l c == p) := by
  rw [H.2.2.1 p hp, H.1, ot_K_andn]
  apply ot_K_ext
  intro c _
  rw [Bool.eq_iff_iff]
  simp only [Bool.and_eq_true, Bool.not_not, beq_iff_eq]
  rcases ot_h_or b l c with h | h <;> omega
theorem ox_held (H : ot_X b q0 t l xg xp xd xy xl) {p : Nat} (hp : p < 4) {post : Int32 → Prop} (K : post (ot_K (fun c => ot_h b l c == p))) : wpX_held post (xg, xo, t, xp, xd, xy, xl, xu, xv, xc, xs, xw) (nI p) := by
  refine And.intro (vp_in_nI hp (by decide)) ?_
  rw [nI_clamp (by omega), ot_heldK H hp]
  exact K
theorem ot_g_m0 (hm : l.length % 4 = 0) : ot_g b q0 t l = fun c => ot_h b l c == ot_t q0 t l := by
  unfold ot_g; rw [if_pos hm]
theorem ot_g_z (hm : ¬ l.length % 4 = 0) (hz : ot_K (ot_f b q0 t l) = 0) : ot_g b q0 t l = fun c => ot_h b l c == ot_t q0 t l := by
  unfold ot_g; rw [if_neg hm, if_pos hz]
theorem ot_g_f (hm : ¬ l.length % 4 = 0) (hz : ¬ ot_K (ot_f b q0 t l) = 0) : ot_g b q0 t l = ot_f b q0 t l := by
  unfold ot_g; rw [if_neg hm, if_neg hz]
theorem ox_legal (E : ot_E b q0 e) (hok : ot_ok b q0 t l) (H : ot_X b q0 t l xg xp xd xy xl) {post : Int32 → Prop} (K : post (ot_K (ot_g b q0 t l))) : wpX_legalCards post (xg, xo, t, xp, xd, xy, xl, xu, xv, xc, xs, xw) := by
  have hn := ot_E_len E hok
  have e2 : xp - xp / 4 * 4 = nI (l.length % 4) := by rw [H.2.1]; exact pk_rem (d := 4) (by omega) (by decide) (by decide)
  unfold wpX_legalCards
  dsimp only
  refine ox_turn E hok H ?_
  refine ox_held H (ot_t_lt q0 t l) ?_
  refine And.intro (by decide) (nm_r e2 ?_)
  by_cases hm : l.length % 4 = 0
  · refine br_t (by rw [hm]; rfl) ?_
    rw [ot_g_m0 hm] at K
    exact K
  · have e3 : xp - nI (l.length % 4) = nI (l.length - l.length % 4) := by rw [H.2.1]; exact pk_sub (by omega)
    have hlt : l.length - l.length % 4 < l.length := by omega
    have hp := ot_p_lt hok (l.length - l.length % 4)
    have e4 : xy (xp - nI (l.length % 4)).toNatClampNeg / 4 = nI (ot_p l (l.length - l.length % 4) / 4) := by
      rw [e3, nI_clamp (by omega), H.2.2.2.1 _ hlt]
      exact pk_div (d := 4) (by omega) (by decide) (by decide)
    have e5 : ot_K (fun c => ot_h b l c == ot_t q0 t l) &&& ((15 : Int32) <<< ((nI (ot_p l (l.length - l.length % 4) / 4) * 4) &&& 31)) = ot_K (ot_f b q0 t l) := by
      have : nI (ot_p l (l.length - l.length % 4) / 4) * 4 = nI (ot_p l (l.length - l.length % 4) / 4 * 4) := pk_mul _ 4
      rw [this, ot_15 _ (by omega), ot_K_and]
      rfl
    refine br_f (nI_ne0 (by omega) (by omega)) (And.intro ?_ (And.intro (by decide) (nm_r e4 (nm_r e5 ?_))))
    · rw [e3]; exact vp_in_nI (by omega) (by decide)
    · by_cases hz : ot_K (ot_f b q0 t l) = 0
      · refine br_t hz ?_
        rw [ot_g_z hm hz] at K
        exact K
      · refine br_f hz ?_
        rw [ot_g_f hm hz] at K
        exact K
theorem ox_may (E : ot_E b q0 e) (hok : ot_ok b q0 t l) (H : ot_X b q0 t l xg xp xd xy xl) {v : Int32} {post : Int32 → Prop} (K1 : ∀ c, c < 12 → v = nI c → ot_g b q0 t l c = true → post 1)
    (K0 : (∀ c, c < 12 → v = nI c → ot_g b q0 t l c = false) → post 0) : wpX_mayBePlayed post (xg, xo, t, xp, xd, xy, xl, xu, xv, xc, xs, xw) v := by
  unfold wpX_mayBePlayed
  dsimp only
  rcases pk_ix v (n := 12) (by decide) with h | h | ⟨j, hj, rfl⟩
  · exact br_t h (K0 (fun c hc z => absurd h (by rw [z]; exact nI_pos (by omega))))
  · have h0 : ¬ v < 0 := fun z => by
      rw [Int32.lt_iff_toInt_lt] at z
      rw [Int32.le_iff_toInt_le, nI_toInt (by decide)] at h
      have : (0 : Int32).toInt = 0 := by decide
      omega
    exact br_f h0 (br_t h (K0 (fun c hc z => absurd h (by rw [z]; exact nI_ge hc (by decide)))))
  · refine br_f (nI_pos (by omega)) (br_f (nI_ge (b := 12) hj (by decide)) ?_)
    refine ox_legal E hok H ?_
    show ((ot_K (ot_g b q0 t l) >>> (nI j &&& 31)) &&& 1 = 1 → post 1) ∧ (¬ (ot_K (ot_g b q0 t l) >>> (nI j &&& 31)) &&& 1 = 1 → post 0)
    rw [ot_K_bit _ hj]
    by_cases hg : ot_g b q0 t l j = true
    · rw [if_pos hg]; exact br_t (by rfl) (K1 j hj rfl hg)
    · rw [if_neg hg]
      refine br_f (by decide) (K0 (fun c hc z => ?_))
      have : j = c := (nI_eq (by omega) (by omega)).mp z
      rw [← this]; simpa using hg
theorem ox_beats {c d : Nat} (hc : c < 12) (hd : d < 12) {post : Int32 → Prop} (K : post (if ot_b t c d = true then 1 else 0)) : wpX_beats post (xg, xo, t, xp, xd, xy, xl, xu, xv, xc, xs, xw) (nI c) (nI d) := by
  have e1 : nI c / 4 = nI (c / 4) := pk_div (d := 4) (by omega) (by decide) (by decide)
  have e2 : nI d / 4 = nI (d / 4) := pk_div (d := 4) (by omega) (by decide) (by decide)
  refine And.intro (by decide) (nm_r e1 (And.intro (by decide) ?_))
  unfold ot_b at K
  rw [e2]
  by_cases h : c / 4 = d / 4
  · rw [if_pos h] at K
    refine br_t (congrArg nI h) ?_
    by_cases h2 : d < c
    · rw [decide_eq_true h2] at K
      exact br_f (nI_ge h2 (by omega)) K
    · rw [decide_eq_false h2] at K
      exact br_t (nI_le (by omega) (by omega)) K
  · rw [if_neg h] at K
    refine br_f (fun z => h ((nI_eq (by omega) (by omega)).mp z)) ?_
    by_cases h2 : nI (c / 4) = t
    · rw [decide_eq_true h2] at K
      exact br_t h2 K
    · rw [decide_eq_false h2] at K
      exact br_f h2 K
theorem ox_top {f : Nat → Nat} {n k L : Nat} (hn : n ≤ 12) (hk : 4 * k < n) (hy : ∀ i, i < n → xy i = nI (f i)) (hf : ∀ i, i < n → f i < 12) (hl : xl k = nI L) (hL : L < 4) {post : Int32 → Prop}
    (K : post (nI ((L + (ot_tp t f (4 * k) (min 3 (n - 4 * k - 1)) - 4 * k)) % 4))) : wpX_topPlayer post (xg, xo, t, nI n, xd, xy, xl, xu, xv, xc, xs, xw) (nI k) := by
  have ek : nI k * 4 = nI (4 * k) := by
    rw [Nat.mul_comm]; exact pk_mul k 4
  have key : ∀ d j, j + d = min 3 (n - 4 * k - 1) → wX_topPlayer_11 post (nI k) (nI (4 * k)) xg xo t (nI n) xd xy xl xu xv xc xs xw (d + 1) (nI (ot_tp t f (4 * k) j)) (nI (4 * k + j + 1)) := by
    intro d
    induction d with
    | zero =>
      intro j hj
      have hj' : j = min 3 (n - 4 * k - 1) := by omega
      have hin := ot_tp_in t f (4 * k) j
      have fin : wX_topPlayer_57 post (nI k) (nI (4 * k)) (nI (ot_tp t f (4 * k) j)) xg xo t (nI n) xd xy xl xu xv xc xs xw := by
        have e1 : xl (nI k).toNatClampNeg = nI L := by rw [nI_clamp (by omega)]; exact hl
        have e2 : nI L + nI (ot_tp t f (4 * k) j) - nI (4 * k) = nI (L + (ot_tp t f (4 * k) j - 4 * k)) := by
          rw [nI_add, pk_sub (by omega)]; exact congrArg nI (by omega)
        refine And.intro (vp_in_nI (by omega) (by decide)) (And.intro (by decide) ?_)
        rw [e1, e2]
        have e3 : nI (L + (ot_tp t f (4 * k) j - 4 * k)) - nI (L + (ot_tp t f (4 * k) j - 4 * k)) / 4 * 4 = nI ((L + (ot_tp t f (4 * k) j - 4 * k)) % 4) := pk_rem (d := 4) (by omega) (by decide) (by decide)
        rw [e3, hj']
        exact K
      by_cases h3 : j = 3
      · refine br_t ?_ fin
        rw [h3]
        have : nI (4 * k) + 4 = nI (4 * k + 4) := nI_add (4 * k) 4
        rw [this]
        exact nI_le (by omega) (by omega)
      · refine br_f ?_ (br_t ?_ fin)
        · have : nI (4 * k) + 4 = nI (4 * k + 4) := nI_add (4 * k) 4
          rw [this]
          exact nI_ge (by omega) (by omega)
        · exact nI_le (by omega) (by omega)
    | succ d ih =>
      intro j hj
      have hin := ot_tp_in t f (4 * k) j
      have h1 : ¬ nI (4 * k) + 4 ≤ nI (4 * k + j + 1) := by
        have : nI (4 * k) + 4 = nI (4 * k + 4) := nI_add (4 * k) 4
        rw [this]
        exact nI_ge (by omega) (by omega)
      have e1 : xy (nI (4 * k + j + 1)).toNatClampNeg = nI (f (4 * k + j + 1)) := by rw [nI_clamp (by omega)]; exact hy _ (by omega)
      have e2 : xy (nI (ot_tp t f (4 * k) j)).toNatClampNeg = nI (f (ot_tp t f (4 * k) j)) := by rw [nI_clamp (by omega)]; exact hy _ (by omega)
      refine br_f h1 (br_f (nI_ge (by omega) (by omega)) (And.intro (vp_in_nI (by omega) (by decide)) (And.intro (vp_in_nI (by omega) (by decide)) ?_)))
      rw [e1, e2]
      refine ox_beats (hf _ (by omega)) (hf _ (by omega)) ?_
      by_cases hb : ot_b t (f (4 * k + j + 1)) (f (ot_tp t f (4 * k) j)) = true
      · have et : ot_tp t f (4 * k) (j + 1) = 4 * k + j + 1 := by rw [ot_tp, if_pos hb]
        rw [if_pos hb]
        refine br_f (by decide) (nm_r (nI_1 _) ?_)
        have := ih (j + 1) (by omega)
        rw [et] at this
        exact this
      · have et : ot_tp t f (4 * k) (j + 1) = ot_tp t f (4 * k) j := by rw [ot_tp, if_neg hb]
        rw [if_neg hb]
        refine br_t rfl (nm_r (nI_1 _) ?_)
        have := ih (j + 1) (by omega)
        rw [et] at this
        exact this
  unfold wpX_topPlayer
  dsimp only
  refine nm_r ek (nm_r (nI_1 _) ⟨min 3 (n - 4 * k - 1) + 1, ?_⟩)
  exact key _ 0 (by omega)
end
end
section
/-! the component: put, take back, tricks won, the search -/
section
variable {b : Nat → Nat} {q0 : Nat} {t : Int32} {e : Nat} {l : List Nat} {xg xo xp : Int32} {xd xy xl xu xv xc xs xw : Nat → Int32}
theorem ox_put (E : ot_E b q0 e) {c : Nat} (hok : ot_ok b q0 t (c :: l)) (H : ot_X b q0 t l xg xp xd xy xl) {post : SX → Prop}
    (K : ∀ xg' xp' xy' xl', ot_X b q0 t (c :: l) xg' xp' xd xy' xl' → post (xg', xo, t, xp', xd, xy', xl', xu, xv, xc, xs, xw)) : wpX_put post (xg, xo, t, xp, xd, xy, xl, xu, xv, xc, xs, xw) (nI c) := by
  have hn : l.length + 1 ≤ 12 := ot_E_len E hok
  have hc := hok.2.1
  have hgb := ot_g_b hok.2.2
  have htl := ot_t_lt q0 t l
  have eg : xg ||| ((1 : Int32) <<< (nI c &&& 31)) = ot_K (fun x => !(ot_h b (c :: l) x == b x)) := by
    rw [H.1, ot_1 c hc, ot_K_or]
    apply ot_K_ext
    intro x _
    show (!(ot_h b l x == b x) || x == c) = !((if x = c then 4 else ot_h b l x) == b x)
    by_cases hx : x = c
    · rw [if_pos hx, hx]
      have : ((4 : Nat) == b c) = false := by
        rw [hgb.1]; simp; omega
      rw [this]; simp
    · rw [if_neg hx]
      have : (x == c) = false := by simpa using hx
      rw [this]; simp
  have ey : upd xy xp.toNatClampNeg (nI c) = upd xy l.length (nI c) := by rw [H.2.1, nI_clamp (by omega)]
  have ep : xp + 1 = nI (l.length + 1) := by rw [H.2.1]; exact nI_1 _
  have e1 : nI (l.length + 1) - nI (l.length + 1) / 4 * 4 = nI ((l.length + 1) % 4) := pk_rem (d := 4) (by omega) (by decide) (by decide)
  have hy : ∀ i, i < l.length + 1 → upd xy l.length (nI c) i = nI (ot_p (c :: l) i) := by
    intro i hi
    by_cases h : i = l.length
    · rw [h, pk_us, ot_p_top]
    · rw [pk_un h, ot_p_cons (by omega)]
      exact H.2.2.2.1 i (by omega)
  refine nm_r eg (And.intro (by rw [H.2.1]; exact vp_in_nI (by omega) (by decide)) (nm_r ey (nm_r ep (And.intro (by decide) ?_))))
  by_cases hm : (l.length + 1) % 4 = 0
  · have ed : nI (l.length + 1) / 4 = nI ((l.length + 1) / 4) := pk_div (d := 4) (by omega) (by decide) (by decide)
    have e2 : nI ((l.length + 1) / 4) - 1 = nI (l.length / 4) := by
      have : (l.length + 1) / 4 = l.length / 4 + 1 := by omega
      rw [this]; exact nI_pred _
    refine br_t (by rw [e1, hm]; rfl) (And.intro (by decide) (nm_r ed ?_))
    rw [e2]
    refine ox_top (f := ot_p (c :: l)) (n := l.length + 1) (k := l.length / 4) (L := ot_l q0 t l (l.length / 4)) hn (by omega) hy (fun i _ => ot_p_lt hok i) (H.2.2.2.2 _ (Nat.le_refl _)) (ot_l_lt E.2.1 t l _) ?_
    refine And.intro (vp_in_nI (by omega) (by decide)) (nm_e (K _ _ _ _ ⟨rfl, rfl, H.2.2.1, hy, ?_⟩))
    intro k hk
    have hk' : k ≤ (l.length + 1) / 4 := hk
    rw [nI_clamp (by omega)]
    have hmin : min 3 (l.length + 1 - 4 * (l.length / 4) - 1) = 3 := by omega
    by_cases h : k = (l.length + 1) / 4
    · rw [h, pk_us, ot_l_top hm, hmin]
    · rw [pk_un h, ot_l_cons (by omega)]
      exact H.2.2.2.2 k (by omega)
  · refine br_f (by rw [e1]; exact nI_ne0 (by omega) (by omega)) (K _ _ _ _ ⟨rfl, rfl, H.2.2.1, hy, ?_⟩)
    intro k hk
    have hk' : k ≤ (l.length + 1) / 4 := hk
    rw [ot_l_cons (by omega)]
    exact H.2.2.2.2 k (by omega)
theorem ox_back (E : ot_E b q0 e) {c : Nat} (hok : ot_ok b q0 t (c :: l)) (H : ot_X b q0 t (c :: l) xg xp xd xy xl) {post : Int32 → SX → Prop}
    (K : ∀ xg', ot_X b q0 t l xg' (nI l.length) xd xy xl → post (nI c) (xg', xo, t, nI l.length, xd, xy, xl, xu, xv, xc, xs, xw)) : wpX_takeBack post (xg, xo, t, xp, xd, xy, xl, xu, xv, xc, xs, xw) := by
  have hn : l.length + 1 ≤ 12 := ot_E_len E hok
  have hc := hok.2.1
  have hgb := ot_g_b hok.2.2
  have htl := ot_t_lt q0 t l
  have hL : (c :: l).length = l.length + 1 := rfl
  have ep : xp - 1 = nI l.length := by rw [H.2.1, hL]; exact nI_pred _
  have ey : xy (nI l.length).toNatClampNeg = nI c := by
    rw [nI_clamp (by omega), H.2.2.2.1 l.length (by omega), ot_p_top]
  have eg : xg &&& (((1 : Int32) <<< (nI c &&& 31)) ^^^ (-1)) = ot_K (fun x => !(ot_h b l x == b x)) := by
    rw [H.1, ot_1 c hc, ot_K_andn]
    apply ot_K_ext
    intro x _
    show (!((if x = c then 4 else ot_h b l x) == b x) && !(x == c)) = !(ot_h b l x == b x)
    by_cases hx : x = c
    · rw [if_pos hx, hx, hgb.2]; simp
    · rw [if_neg hx]
      have : (x == c) = false := by simpa using hx
      rw [this]; simp
  unfold wpX_takeBack
  dsimp only
  refine nm_r ep (And.intro (vp_in_nI (by omega) (by decide)) (nm_r ey (nm_r eg (K _ ⟨rfl, rfl, H.2.2.1, ?_, ?_⟩))))
  · intro i hi
    rw [H.2.2.2.1 i (by omega), ot_p_cons hi]
  · intro k hk
    rw [H.2.2.2.2 k (by omega), ot_l_cons hk]
theorem ox_won (E : ot_E b q0 e) (hok : ot_ok b q0 t l) (H : ot_X b q0 t l xg xp xd xy xl) {s : Nat} (hs : s < 2) {post : Int32 → Prop} (K : post (nI (ot_w q0 t l s (l.length / 4)))) :
    wpX_tricksWon post (xg, xo, t, xp, xd, xy, xl, xu, xv, xc, xs, xw) (nI s) := by
  have hn := ot_E_len E hok
  have e1 : xp / 4 = nI (l.length / 4) := by rw [H.2.1]; exact pk_div (d := 4) (by omega) (by decide) (by decide)
  have key : ∀ d k, k + d = l.length / 4 → wX_tricksWon_4 post (nI s) xg xo t xp xd xy xl xu xv xc xs xw (d + 1) (nI (ot_w q0 t l s k)) (nI (k + 1)) := by
    intro d
    induction d with
    | zero =>
      intro k hk
      refine And.intro (by decide) (br_t ?_ ?_)
      · rw [e1]; exact nI_lt (by omega) (by omega)
      · have : k = l.length / 4 := by omega
        rw [this]; exact K
    | succ d ih =>
      intro k hk
      have hl := ot_l_lt E.2.1 t l (k + 1)
      have e2 : xl (nI (k + 1)).toNatClampNeg = nI (ot_l q0 t l (k + 1)) := by rw [nI_clamp (by omega)]; exact H.2.2.2.2 _ (by omega)
      have e3 : nI (ot_l q0 t l (k + 1)) - nI (ot_l q0 t l (k + 1)) / 2 * 2 = nI (ot_l q0 t l (k + 1) % 2) := pk_rem (d := 2) (by omega) (by decide) (by decide)
      refine And.intro (by decide) (br_f ?_ (And.intro (vp_in_nI (by omega) (by decide)) (And.intro (by decide) ?_)))
      · rw [e1]; exact nI_nlt (by omega) (by omega)
      · rw [e2, e3]
        have := ih (k + 1) (by omega)
        by_cases h : ot_l q0 t l (k + 1) % 2 = s
        · have ew : ot_w q0 t l s (k + 1) = ot_w q0 t l s k + 1 := by rw [ot_w, if_pos h]
          rw [ew] at this
          exact br_t (congrArg nI h) (nm_r (nI_1 _) (nm_r (nI_1 _) this))
        · have ew : ot_w q0 t l s (k + 1) = ot_w q0 t l s k := by rw [ot_w, if_neg h]; rfl
          rw [ew] at this
          exact br_f (fun z => h ((nI_eq (by omega) (by omega)).mp z)) (nm_r (nI_1 _) this)
  exact ⟨l.length / 4 + 1, key _ 0 (by omega)⟩
theorem ox_enter (E : ot_E b q0 e) (hok : ot_ok b q0 t l) (H : ot_X b q0 t l xg xp xd xy xl) {post : SX → Prop}
    (K : post (xg, xo, t, xp, xd, xy, xl, upd xu l.length (ot_K (ot_g b q0 t l)), upd xv l.length (ot_en 4 b q0 t l).1, upd xc l.length (ot_en 4 b q0 t l).2.1, upd xs l.length (ot_en 4 b q0 t l).2.2.1, upd xw l.length (ot_en 4 b q0 t l).2.2.2)) :
    wpX_enter post (xg, xo, t, xp, xd, xy, xl, xu, xv, xc, xs, xw) := by
  have hn := ot_E_len E hok
  have ei : ∀ (f : Nat → Int32) (x : Int32), upd f xp.toNatClampNeg x = upd f l.length x := by
    intro f x; rw [H.2.1, nI_clamp (by omega)]
  have hin : vp_in xp 13 := by rw [H.2.1]; exact vp_in_nI (by omega) (by decide)
  unfold wpX_enter
  dsimp only
  refine ox_legal E hok H ?_
  refine And.intro hin (nm_r (ei _ _) (And.intro hin (nm_r (ei _ _) ?_)))
  by_cases h0 : ot_K (ot_g b q0 t l) = 0
  · have een : ot_en 4 b q0 t l = (nI (ot_w q0 t l 0 (l.length / 4)), -4, nI (ot_w q0 t l 0 (l.length / 4)), 1) := by unfold ot_en; rw [if_pos h0]
    rw [een] at K
    refine br_t h0 ?_
    refine ox_won (s := 0) E hok H (by decide) ?_
    exact And.intro hin (nm_r (ei _ _) (And.intro hin (nm_r (ei _ _) (And.intro hin (nm_r (ei _ _) K)))))
  · have een : ot_en 4 b q0 t l = ot_in 4 (ot_t q0 t l) := by unfold ot_en; rw [if_neg h0]
    rw [een] at K
    refine br_f h0 ?_
    refine ox_turn E hok H ?_
    have htl := ot_t_lt q0 t l
    have e3 : nI (ot_t q0 t l) - nI (ot_t q0 t l) / 2 * 2 = nI (ot_t q0 t l % 2) := pk_rem (d := 2) (by omega) (by decide) (by decide)
    refine And.intro (by decide) ?_
    rw [e3]
    by_cases hT : ot_t q0 t l % 2 = 0
    · have ein : ot_in 4 (ot_t q0 t l) = (-1, -4, 4, 0) := by unfold ot_in; rw [if_pos hT]
      rw [ein] at K
      refine br_t (by rw [hT]; rfl) ?_
      exact And.intro hin (nm_r (ei _ _) (And.intro hin (nm_r (ei _ _) (And.intro hin (nm_r (ei _ _) K)))))
    · have ein : ot_in 4 (ot_t q0 t l) = (4, -4, 4, 0) := by unfold ot_in; rw [if_neg hT]
      rw [ein] at K
      refine br_f (nI_ne0 (by omega) (by omega)) ?_
      exact And.intro hin (nm_r (ei _ _) (And.intro hin (nm_r (ei _ _) (And.intro hin (nm_r (ei _ _) K)))))
theorem ox_low {P : Nat → Bool} {post : Int32 → Prop} (K0 : ot_bl P = [] → post (-4)) (K1 : ∀ c cs, ot_bl P = c :: cs → post (nI c)) : wpX_lowestCard post (xg, xo, t, xp, xd, xy, xl, xu, xv, xc, xs, xw) (ot_K P) := by
  have key : ∀ d j, j + d = 12 → (∀ i, i < j → P i = false) → wX_lowestCard_2 post (ot_K P) xg xo t xp xd xy xl xu xv xc xs xw (d + 1) (nI j) := by
    intro d
    induction d with
    | zero =>
      intro j hj hP
      refine br_t (nI_le (a := 12) (by omega) (by omega)) (K0 (ot_bl_nil.mpr (fun c hc => hP c (by omega))))
    | succ d ih =>
      intro j hj hP
      refine br_f (nI_ge (b := 12) (by omega) (by decide)) ?_
      rw [ot_K_bit P (by omega)]
      by_cases hp : P j = true
      · rw [if_pos hp]
        refine br_t rfl ?_
        cases hb : ot_bl P with
        | nil =>
          have := ot_bl_nil.mp hb j (by omega)
          rw [hp] at this; cases this
        | cons c cs =>
          obtain ⟨h1, h2, h3, _⟩ := ot_bl_cons hb
          have : c = j := by
            rcases Nat.lt_trichotomy c j with h | h | h
            · rw [hP c h] at h2; cases h2
            · exact h
            · rw [h3 j h] at hp; cases hp
          rw [← this]; exact K1 c cs hb
      · rw [if_neg hp]
        refine br_f (by decide) (nm_r (nI_1 _) (ih (j + 1) (by omega) (fun i hi => ?_)))
        by_cases h : i = j
        · rw [h]; simpa using hp
        · exact hP i (by omega)
  exact ⟨13, key 12 0 (by omega) (fun i hi => by omega)⟩
theorem ot_nle {x y : Int32} (h : y < x) : ¬ x ≤ y := Int32.not_le.mpr h
theorem ox_leave (E : ot_E b q0 e) {c : Nat} (hok : ot_ok b q0 t (c :: l)) (H : ot_X b q0 t (c :: l) xg xp xd xy xl) {a a' : ot_A} (v1 : xv (l.length + 1) = a'.1) (s1 : xs (l.length + 1) = a'.2.2.1) (w1 : xw (l.length + 1) = a'.2.2.2)
    (v0 : xv l.length = a.1) (c0 : xc l.length = a.2.1) (s0 : xs l.length = a.2.2.1) (w0 : xw l.length = a.2.2.2) {post : SX → Prop}
    (K : ∀ xg', ot_X b q0 t l xg' (nI l.length) xd xy xl → post (xg', xo, t, nI l.length, xd, xy, xl, xu, upd xv l.length (ot_st (ot_t q0 t l) a a' c).1, upd xc l.length (ot_st (ot_t q0 t l) a a' c).2.1, upd xs l.length (ot_st (ot_t q0 t l) a a' c).2.2.1, upd xw l.length (ot_st (ot_t q0 t l) a a' c).2.2.2)) :
    wpX_leave post (xg, xo, t, xp, xd, xy, xl, xu, xv, xc, xs, xw) := by
  have hn : l.length + 1 ≤ 12 := ot_E_len E hok
  have hL : (c :: l).length = l.length + 1 := rfl
  have hin : vp_in xp 13 := by rw [H.2.1, hL]; exact vp_in_nI (by omega) (by decide)
  have hin2 : vp_in (nI l.length) 13 := vp_in_nI (by omega) (by decide)
  have ei : ∀ f : Nat → Int32, f xp.toNatClampNeg = f (l.length + 1) := by intro f; rw [H.2.1, hL, nI_clamp (by omega)]
  have ec : (nI l.length).toNatClampNeg = l.length := nI_clamp (by omega)
  have htl := ot_t_lt q0 t l
  have e3 : nI (ot_t q0 t l) - nI (ot_t q0 t l) / 2 * 2 = nI (ot_t q0 t l % 2) := pk_rem (d := 2) (by omega) (by decide) (by decide)
  refine And.intro hin (nm_r ((ei xv).trans v1) (And.intro hin (nm_r ((ei xs).trans s1) (And.intro hin (nm_r ((ei xw).trans w1) ?_)))))
  refine ox_back E hok H (fun xg' H' => ?_)
  have K' := K xg' H'
  refine ox_turn E hok.1 H' ?_
  refine And.intro (by decide) ?_
  -- the rest, by whether the new value is better
  have fin : ∀ z : Int32, (z = 0 ∧ ot_be (ot_t q0 t l) a'.1 a.1 = false ∨ ¬ z = 0 ∧ ot_be (ot_t q0 t l) a'.1 a.1 = true) →
      wX_leave_84 post a'.1 a'.2.2.1 a'.2.2.2 (nI c) z xg' xo t (nI l.length) xd xy xl xu xv xc xs xw := by
    intro z hz
    have tail : ∀ xv' xc', post (xg', xo, t, nI l.length, xd, xy, xl, xu, xv', xc', upd xs l.length (ot_st (ot_t q0 t l) a a' c).2.2.1, upd xw l.length (ot_st (ot_t q0 t l) a a' c).2.2.2) →
        wX_leave_112 post a'.2.2.1 a'.2.2.2 xg' xo t (nI l.length) xd xy xl xu xv' xc' xs xw := by
      intro xv' xc' hp
      have ew : upd xw (nI l.length).toNatClampNeg (xw (nI l.length).toNatClampNeg + a'.2.2.2) = upd xw l.length (ot_st (ot_t q0 t l) a a' c).2.2.2 := by
        rw [ec, w0]; rfl
      refine And.intro hin2 ?_
      rw [ec, s0]
      by_cases hs : a'.2.2.1 < a.2.2.1
      · have es : (ot_st (ot_t q0 t l) a a' c).2.2.1 = a'.2.2.1 := if_pos hs
        rw [es] at hp
        refine br_f (ot_nle hs) (And.intro hin2 (nm_e ?_))
        exact And.intro hin2 (And.intro hin2 (nm_r ew hp))
      · have es : (ot_st (ot_t q0 t l) a a' c).2.2.1 = a.2.2.1 := if_neg hs
        rw [es, ot_upd_self s0] at hp
        refine br_t (Int32.not_lt.mp hs) ?_
        exact And.intro hin2 (And.intro hin2 (nm_r ew hp))
    rcases hz with ⟨hz, hb⟩ | ⟨hz, hb⟩
    · refine br_t hz (tail _ _ ?_)
      have ev : (ot_st (ot_t q0 t l) a a' c).1 = a.1 := if_neg (by rw [hb]; decide)
      have e2 : (ot_st (ot_t q0 t l) a a' c).2.1 = a.2.1 := if_neg (by rw [hb]; decide)
      rw [ev, e2, ot_upd_self v0, ot_upd_self c0] at K'
      exact K'
    · have ev : (ot_st (ot_t q0 t l) a a' c).1 = a'.1 := if_pos hb
      have e2 : (ot_st (ot_t q0 t l) a a' c).2.1 = nI c := if_pos hb
      rw [ev, e2] at K'
      refine br_f hz (And.intro hin2 (nm_e (And.intro hin2 (nm_e (tail _ _ ?_)))))
      rw [ec]
      exact K'
  rw [e3]
  by_cases hT : ot_t q0 t l % 2 = 0
  · refine br_t (by rw [hT]; rfl) (And.intro hin2 ?_)
    rw [ec, v0]
    by_cases hv : a'.1 ≤ a.1
    · refine br_t hv (fin 0 (Or.inl ⟨rfl, ?_⟩))
      unfold ot_be
      rw [if_pos hT]
      exact decide_eq_false (Int32.not_lt.mpr hv)
    · refine br_f hv (fin 1 (Or.inr ⟨by decide, ?_⟩))
      unfold ot_be
      rw [if_pos hT]
      exact decide_eq_true (Int32.not_le.mp hv)
  · refine br_f (nI_ne0 (by omega) (by omega)) (And.intro hin2 ?_)
    rw [ec, v0]
    by_cases hv : a.1 ≤ a'.1
    · refine br_t hv (fin 0 (Or.inl ⟨rfl, ?_⟩))
      unfold ot_be
      rw [if_neg hT]
      exact decide_eq_false (Int32.not_lt.mpr hv)
    · refine br_f hv (fin 1 (Or.inr ⟨by decide, ?_⟩))
      unfold ot_be
      rw [if_neg hT]
      exact decide_eq_true (Int32.not_le.mp hv)
end
end
section
/-! the component's search by steps -/
def ox_R (b : Nat → Nat) (q0 : Nat) (t xo : Int32) (xd : Nat → Int32) (B0 : Nat) (l : List Nat) (fs : List (List Nat × ot_A)) (u : SX) : Prop :=
  ∃ (xg xp : Int32) (xy xl xu xv xc xs xw : Nat → Int32), u = (xg, xo, t, xp, xd, xy, xl, xu, xv, xc, xs, xw) ∧ ot_X b q0 t l xg xp xd xy xl ∧ ot_F B0 xu xv xc xs xw fs ∧ l.length + 1 = B0 + fs.length
def ox_V (post : SX → Prop) (B0 : Nat) (r : Nat) (u : SX) : Prop := match u with
  | (xg, xo, xt, xp, xd, xy, xl, xu, xv, xc, xs, xw) => wX_explore_11 post (nI B0) (r + 1) (nI (1000000 - r)) xg xo xt xp xd xy xl xu xv xc xs xw
section
variable {b : Nat → Nat} {q0 : Nat} {t : Int32} {e : Nat} {xo : Int32} {xd : Nat → Int32}
theorem ot_c_m4 : ∀ c, c < 12 → ¬ nI c = -4 := by decide
theorem ox_S1 (E : ot_E b q0 e) (post : SX → Prop) (B0 : Nat) (r : Nat) (l : List Nat) (c : Nat) (cs : List Nat) (a : ot_A) (fs : List (List Nat × ot_A)) (u : SX) (hr : r < 1000000) (hok : ot_ok b q0 t l) (hc : ot_ok b q0 t (c :: l))
    (h : ox_R b q0 t xo xd B0 l ((c :: cs, a) :: fs) u)
    (K : ∀ u', ox_R b q0 t xo xd B0 (c :: l) ((ot_bl (ot_g b q0 t (c :: l)), ot_en 4 b q0 t (c :: l)) :: (cs, a) :: fs) u' → ox_V post B0 r u') : ox_V post B0 (r + 1) u := by
  obtain ⟨xg, xp, xy, xl, xu, xv, xc, xs, xw, rfl, H, F, hlen⟩ := h
  have hn : l.length + 1 ≤ 12 := ot_E_len E hc
  rw [List.length_cons] at hlen
  have hk : xp.toNatClampNeg = B0 + fs.length := by rw [H.2.1, nI_clamp (by omega)]; omega
  have hin : vp_in xp 13 := by rw [H.2.1]; exact vp_in_nI (by omega) (by decide)
  obtain ⟨⟨⟨P, hP1, hP2⟩, _⟩, _⟩ := id F
  have eu : xu xp.toNatClampNeg = ot_K P := by rw [hk]; exact hP1
  have es : nI (1000000 - (r + 1)) + 1 = nI (1000000 - r) := by rw [nI_1]; exact congrArg nI (by omega)
  show wX_explore_11 post (nI B0) (r + 1 + 1) (nI (1000000 - (r + 1))) xg xo t xp xd xy xl xu xv xc xs xw
  refine br_f (nI_ge (b := 1000000) (by omega) (by decide)) (And.intro hin ?_)
  have hF : ∀ v : Int32, v = xu xp.toNatClampNeg &&& (((1 : Int32) <<< (nI c &&& 31)) ^^^ (-1)) → ot_F B0 (upd xu xp.toNatClampNeg v) xv xc xs xw ((cs, a) :: fs) := by
    intro v hv
    refine ot_F_take hk F (fun P' hP' => ?_)
    rw [hv, hP', ot_1 c hc.2.1, ot_K_andn]
  generalize xu xp.toNatClampNeg = U0 at eu hF ⊢
  subst eu
  refine ox_low (fun z => ?_) (fun c' cs' hb => ?_)
  · rw [z] at hP2; cases hP2
  · obtain ⟨h1, h2⟩ := List.cons.inj (hP2.symm.trans hb)
    subst h1
    refine br_f (ot_c_m4 c hc.2.1) (And.intro hin (And.intro hin (nm_e ?_)))
    refine ox_put E hc H (fun xg' xp' xy' xl' H' => ?_)
    refine ox_enter E hc H' ?_
    refine nm_r es (K _ ⟨xg', xp', xy', xl', _, _, _, _, _, rfl, H', ?_, ?_⟩)
    · exact ot_F_new (by simp only [List.length_cons]; omega) (hF _ rfl) ⟨_, rfl, rfl⟩ rfl rfl rfl rfl
    · simp only [List.length_cons]; omega
theorem ox_S2 (E : ot_E b q0 e) (post : SX → Prop) (B0 : Nat) (r : Nat) (l : List Nat) (c : Nat) (cs : List Nat) (a a' : ot_A) (fs : List (List Nat × ot_A)) (u : SX) (hr : r < 1000000) (hc : ot_ok b q0 t (c :: l))
    (h : ox_R b q0 t xo xd B0 (c :: l) (([], a') :: (cs, a) :: fs) u)
    (K : ∀ u', ox_R b q0 t xo xd B0 l ((cs, ot_st (ot_t q0 t l) a a' c) :: fs) u' → ox_V post B0 r u') : ox_V post B0 (r + 1) u := by
  obtain ⟨xg, xp, xy, xl, xu, xv, xc, xs, xw, rfl, H, F, hlen⟩ := h
  have hn : l.length + 1 ≤ 12 := ot_E_len E hc
  have hL : (c :: l).length = l.length + 1 := rfl
  rw [List.length_cons, List.length_cons, List.length_cons] at hlen
  have hB : B0 + fs.length = l.length := by omega
  have hxp : xp = nI (l.length + 1) := H.2.1
  have hk : xp.toNatClampNeg = l.length + 1 := by rw [hxp, nI_clamp (by omega)]
  have hin : vp_in xp 13 := by rw [hxp]; exact vp_in_nI (by omega) (by decide)
  obtain ⟨⟨⟨P, hP1, hP2⟩, hv1, hc1, hs1, hw1⟩, F2⟩ := id F
  obtain ⟨⟨hU0, hv0, hc0, hs0, hw0⟩, F3⟩ := id F2
  have hB1 : B0 + ((cs, a) :: fs).length = l.length + 1 := by rw [List.length_cons]; omega
  rw [hB1] at hP1 hv1 hs1 hw1
  rw [hB] at hv0 hc0 hs0 hw0
  have eu : xu xp.toNatClampNeg = ot_K P := by rw [hk]; exact hP1
  have es : nI (1000000 - (r + 1)) + 1 = nI (1000000 - r) := by rw [nI_1]; exact congrArg nI (by omega)
  show wX_explore_11 post (nI B0) (r + 1 + 1) (nI (1000000 - (r + 1))) xg xo t xp xd xy xl xu xv xc xs xw
  refine br_f (nI_ge (b := 1000000) (by omega) (by decide)) (And.intro hin ?_)
  rw [eu]
  refine ox_low (fun _ => ?_) (fun c' cs' hb => ?_)
  · refine br_t rfl (br_f ?_ ?_)
    · rw [hxp]; exact nI_ge (by omega) (by omega)
    · refine ox_leave E hc H hv1 hs1 hw1 hv0 hc0 hs0 hw0 (fun xg' H' => ?_)
      refine nm_r es (K _ ⟨xg', _, xy, xl, _, _, _, _, _, rfl, H', ?_, ?_⟩)
      · exact ot_F_mod hB.symm F2
      · simp only [List.length_cons]; omega
  · rw [hb] at hP2; cases hP2
theorem ox_S3 (E : ot_E b q0 e) (post : SX → Prop) (r : Nat) (l : List Nat) (a : ot_A) (u : SX) (hr0 : 0 < r) (hr : r ≤ 1000000) (hok : ot_ok b q0 t l) (h : ox_R b q0 t xo xd l.length l [([], a)] u) (K : post u) : ox_V post l.length r u := by
  obtain ⟨xg, xp, xy, xl, xu, xv, xc, xs, xw, rfl, H, F, hlen⟩ := h
  have hn := ot_E_len E hok
  have hk : xp.toNatClampNeg = l.length := by rw [H.2.1, nI_clamp (by omega)]
  have hin : vp_in xp 13 := by rw [H.2.1]; exact vp_in_nI (by omega) (by decide)
  obtain ⟨⟨⟨P, hP1, hP2⟩, _⟩, _⟩ := F
  have eu : xu xp.toNatClampNeg = ot_K P := by rw [hk]; exact hP1
  show wX_explore_11 post (nI l.length) (r + 1) (nI (1000000 - r)) xg xo t xp xd xy xl xu xv xc xs xw
  refine br_f (nI_ge (b := 1000000) (by omega) (by decide)) (And.intro hin ?_)
  rw [eu]
  refine ox_low (fun _ => ?_) (fun c' cs' hb => ?_)
  · refine br_t rfl (br_t ?_ K)
    rw [H.2.1]; exact nI_le (Nat.le_refl _) (by omega)
  · rw [hb] at hP2; cases hP2
theorem ox_explore (E : ot_E b q0 e) {l : List Nat} (hok : ot_ok b q0 t l) {xg xp : Int32} {xy xl xu xv xc xs xw : Nat → Int32} (H : ot_X b q0 t l xg xp xd xy xl) {post : SX → Prop}
    (K : ∀ (xg' : Int32) (xy' xl' xu' xv' xc' xs' xw' : Nat → Int32), ot_X b q0 t l xg' (nI l.length) xd xy' xl' → xv' l.length = (ot_rs 4 b q0 t 12 l).1 → xc' l.length = (ot_rs 4 b q0 t 12 l).2.1 →
      xs' l.length = (ot_rs 4 b q0 t 12 l).2.2.1 → xw' l.length = (ot_rs 4 b q0 t 12 l).2.2.2 → post (xg', xo, t, nI l.length, xd, xy', xl', xu', xv', xc', xs', xw')) :
    wpX_explore post (xg, xo, t, xp, xd, xy, xl, xu, xv, xc, xs, xw) := by
  have hn := ot_E_len E hok
  have hp : xp = nI l.length := H.2.1
  subst hp
  unfold wpX_explore
  dsimp only
  refine ox_enter E hok H ?_
  have hco := ot_co_le E.2.1 E.2.2.1 E.2.2.2.1 12 l hok hn
  have hT := ot_T_12 (12 - l.length) (by omega)
  rw [ot_co] at hco
  have hR : ox_R b q0 t xo xd l.length l [(ot_bl (ot_g b q0 t l), ot_en 4 b q0 t l)] (xg, xo, t, nI l.length, xd, xy, xl, upd xu l.length (ot_K (ot_g b q0 t l)), upd xv l.length (ot_en 4 b q0 t l).1, upd xc l.length (ot_en 4 b q0 t l).2.1, upd xs l.length (ot_en 4 b q0 t l).2.2.1, upd xw l.length (ot_en 4 b q0 t l).2.2.2) :=
    ⟨_, _, _, _, _, _, _, _, _, rfl, H, ot_F_new (fs := []) rfl True.intro ⟨_, rfl, rfl⟩ rfl rfl rfl rfl, rfl⟩
  have main := ot_dfs E.2.1 E.2.2.1 E.2.2.2.1 4 1000000 (ox_V post l.length) (ox_R b q0 t xo xd l.length) (ox_S1 E post l.length) (ox_S2 E post l.length) 11 l hok (by omega) (ot_bl (ot_g b q0 t l)) (fun c hc => ot_ok_bl hok hc)
    (ot_en 4 b q0 t l) [] (1000000 - ((ot_bl (ot_g b q0 t l)).map (fun c => ot_co b q0 t 11 (c :: l) + 2)).sum) _ (by omega) hR (fun u' hu' => by
      refine ox_S3 E post _ l _ u' (by omega) (by omega) hok hu' ?_
      obtain ⟨xg', xp', xy', xl', xu', xv', xc', xs', xw', rfl, H', F', _⟩ := hu'
      have hp' : xp' = nI l.length := H'.2.1
      subst hp'
      obtain ⟨⟨_, h1, h2, h3, h4⟩, _⟩ := F'
      exact K xg' xy' xl' xu' xv' xc' xs' xw' H' h1 h2 h3 h4)
  have e1 : 1000000 - ((ot_bl (ot_g b q0 t l)).map (fun c => ot_co b q0 t 11 (c :: l) + 2)).sum + ((ot_bl (ot_g b q0 t l)).map (fun c => ot_co b q0 t 11 (c :: l) + 2)).sum = 1000000 := by omega
  rw [e1] at main
  exact ⟨1000000 + 1, main⟩
end
end
section
/-! the reference against the game -/
def ot_Y (b : Nat → Nat) (q0 : Nat) (t : Int32) (l : List Nat) (yf yn : Int32) (yh yy yr : Nat → Int32) : Prop :=
  yf = nI q0 ∧ yn = nI l.length ∧ (∀ c, c < 12 → yh c = nI (ot_h b l c)) ∧ (∀ i, i < l.length → yy i = nI (ot_p l i)) ∧ (∀ i, i < l.length → yr i = nI ((ot_l q0 t l (i / 4) + i % 4) % 4))
theorem nx_or (a b : Nat) : nI a ||| nI b = nI (a ||| b) := by
  apply Int32.toBitVec_inj.1
  show BitVec.ofNat 32 a ||| BitVec.ofNat 32 b = BitVec.ofNat 32 (a ||| b)
  apply BitVec.eq_of_getLsbD_eq
  intro i hi
  simp [hi]
theorem ot_1p : ∀ c, c < 12 → (1 : Int32) <<< (nI c &&& 31) = nI (2 ^ c) := by decide +kernel
theorem ot_Kc {P : Nat → Bool} : ot_K P = 0 ↔ ot_c P 12 = 0 := by rw [ot_K_0, ot_c_0]
theorem ot_sum0 {A B C D : Nat → Bool} : ot_K A + ot_K B + ot_K C + ot_K D = 0 ↔ ot_K A = 0 ∧ ot_K B = 0 ∧ ot_K C = 0 ∧ ot_K D = 0 := by
  have hA := ot_m_4096 A
  have hB := ot_m_4096 B
  have hC := ot_m_4096 C
  have hD := ot_m_4096 D
  unfold ot_K
  rw [nI_add, nI_add, nI_add, ← nI_0, nI_eq (by omega) (by omega), nI_eq (by omega) (by omega), nI_eq (by omega) (by omega), nI_eq (by omega) (by omega), nI_eq (by omega) (by omega)]
  omega
section
variable {b : Nat → Nat} {q0 : Nat} {t : Int32} {e : Nat} {l : List Nat} {yo yf yt yn : Int32} {yh yb yy yr yu yv ys yw : Nat → Int32}
theorem oy_hand {h : Nat → Nat} (hh : ∀ c, c < 12 → yh c = nI (h c)) (hle : ∀ c, c < 12 → h c ≤ 4) {p : Nat} (hp : p ≤ 4) {post : Int32 → Prop} (K : post (ot_K (fun c => h c == p))) :
    wpY_handOf post (yo, yf, yt, yn, yh, yb, yy, yr, yu, yv, ys, yw) (nI p) := by
  have key : ∀ d k, k + d = 12 → wY_handOf_4 post (nI p) yo yf yt yn yh yb yy yr yu yv ys yw (d + 1) (nI (ot_m (fun c => h c == p) k)) (nI k) := by
    intro d
    induction d with
    | zero =>
      intro k hk
      have : k = 12 := by omega
      subst this
      exact br_t (nI_le (a := 12) (by omega) (by omega)) K
    | succ d ih =>
      intro k hk
      have := ih (k + 1) (by omega)
      have hl := hle k (by omega)
      refine br_f (nI_ge (b := 12) (by omega) (by decide)) (And.intro (vp_in_nI (by omega) (by decide)) ?_)
      rw [nI_clamp (by omega), hh k (by omega)]
      by_cases hz : h k = p
      · have em : ot_m (fun c => h c == p) (k + 1) = ot_m (fun c => h c == p) k ||| 2 ^ k := by
          rw [ot_m, if_pos (by rw [hz]; simp)]
        have e1 : nI (ot_m (fun c => h c == p) k) ||| ((1 : Int32) <<< (nI k &&& 31)) = nI (ot_m (fun c => h c == p) (k + 1)) := by
          rw [ot_1p k (by omega), nx_or, em]
        exact br_t (congrArg nI hz) (nm_r e1 (nm_r (nI_1 _) this))
      · have em : ot_m (fun c => h c == p) (k + 1) = ot_m (fun c => h c == p) k := by
          rw [ot_m, if_neg (by simpa using hz)]; simp
        rw [em] at this
        exact br_f (fun z => hz ((nI_eq (by omega) (by omega)).mp z)) (nm_r (nI_1 _) this)
  exact ⟨13, key 12 0 (by omega)⟩
theorem oy_win {f : Nat → Nat} {n s : Nat} (hn : n ≤ 12) (hs : s < n) (hy : ∀ i, i < n → yy i = nI (f i)) (hf : ∀ i, i < n → f i < 12) {post : Int32 → Prop}
    (K : post (nI (ot_tp t f s (min 3 (n - s - 1))))) : wpY_winnerAt post (yo, yf, t, nI n, yh, yb, yy, yr, yu, yv, ys, yw) (nI s) := by
  have key : ∀ d j, j + d = min 3 (n - s - 1) → wY_winnerAt_6 post (nI s) yo yf t (nI n) yh yb yy yr yu yv ys yw (d + 1) (nI (ot_tp t f s j)) (nI (s + j + 1)) := by
    intro d
    induction d with
    | zero =>
      intro j hj
      have hj' : j = min 3 (n - s - 1) := by omega
      have fin : post (nI (ot_tp t f s j)) := by rw [hj']; exact K
      have e4 : nI s + 4 = nI (s + 4) := nI_add s 4
      by_cases h3 : j = 3
      · refine br_t ?_ fin
        rw [h3, e4]
        exact nI_le (by omega) (by omega)
      · refine br_f ?_ (br_t ?_ fin)
        · rw [e4]
          exact nI_ge (by omega) (by omega)
        · exact nI_le (by omega) (by omega)
    | succ d ih =>
      intro j hj
      have hin := ot_tp_in t f s j
      have e4 : nI s + 4 = nI (s + 4) := nI_add s 4
      have h1 : ¬ nI s + 4 ≤ nI (s + j + 1) := by
        rw [e4]
        exact nI_ge (by omega) (by omega)
      have f1 := hf (s + j + 1) (by omega)
      have f2 := hf (ot_tp t f s j) (by omega)
      have e1 : yy (nI (s + j + 1)).toNatClampNeg = nI (f (s + j + 1)) := by rw [nI_clamp (by omega)]; exact hy _ (by omega)
      have e2 : yy (nI (ot_tp t f s j)).toNatClampNeg = nI (f (ot_tp t f s j)) := by rw [nI_clamp (by omega)]; exact hy _ (by omega)
      have d1 : nI (f (s + j + 1)) / 4 = nI (f (s + j + 1) / 4) := pk_div (d := 4) (by omega) (by decide) (by decide)
      have d2 : nI (f (ot_tp t f s j)) / 4 = nI (f (ot_tp t f s j) / 4) := pk_div (d := 4) (by omega) (by decide) (by decide)
      have i1 : vp_in (nI (s + j + 1)) 12 := vp_in_nI (by omega) (by decide)
      have i2 : vp_in (nI (ot_tp t f s j)) 12 := vp_in_nI (by omega) (by decide)
      have this := ih (j + 1) (by omega)
      refine br_f h1 (br_f (nI_ge (by omega) (by omega)) ?_)
      rw [e1, e2]
      refine And.intro i1 (And.intro (by decide) (nm_r d1 (And.intro i2 (And.intro (by decide) (nm_r d2 ?_)))))
      have J0 : ot_b t (f (s + j + 1)) (f (ot_tp t f s j)) = false → wY_winnerAt_85 post (wY_winnerAt_6 post (nI s) yo yf t (nI n) yh yb yy yr yu yv ys yw (d + 1)) (nI s) (nI (ot_tp t f s j)) (nI (s + j + 1)) 0 yo yf t (nI n) yh yb yy yr yu yv ys yw := by
        intro hb
        have et : ot_tp t f s (j + 1) = ot_tp t f s j := by rw [ot_tp, if_neg (by rw [hb]; decide)]
        rw [et] at this
        exact br_t rfl (nm_r (nI_1 _) this)
      have J1 : ot_b t (f (s + j + 1)) (f (ot_tp t f s j)) = true → wY_winnerAt_85 post (wY_winnerAt_6 post (nI s) yo yf t (nI n) yh yb yy yr yu yv ys yw (d + 1)) (nI s) (nI (ot_tp t f s j)) (nI (s + j + 1)) 1 yo yf t (nI n) yh yb yy yr yu yv ys yw := by
        intro hb
        have et : ot_tp t f s (j + 1) = s + j + 1 := by rw [ot_tp, if_pos hb]
        rw [et] at this
        exact br_f (by decide) (nm_r (nI_1 _) this)
      by_cases hq : f (s + j + 1) / 4 = f (ot_tp t f s j) / 4
      · refine br_t (congrArg nI hq) (And.intro i1 (And.intro i2 ?_))
        by_cases h2 : f (ot_tp t f s j) < f (s + j + 1)
        · refine br_f (nI_ge h2 (by omega)) (J1 ?_)
          unfold ot_b; rw [if_pos hq]; exact decide_eq_true h2
        · refine br_t (nI_le (by omega) (by omega)) (J0 ?_)
          unfold ot_b; rw [if_pos hq]; exact decide_eq_false h2
      · refine br_f (fun z => hq ((nI_eq (by omega) (by omega)).mp z)) ?_
        by_cases h2 : nI (f (s + j + 1) / 4) = t
        · refine br_t h2 (J1 ?_)
          unfold ot_b; rw [if_neg hq]; exact decide_eq_true h2
        · refine br_f h2 (J0 ?_)
          unfold ot_b; rw [if_neg hq]; exact decide_eq_false h2
  unfold wpY_winnerAt
  dsimp only
  refine nm_r (nI_1 _) ⟨min 3 (n - s - 1) + 1, ?_⟩
  exact key _ 0 (by omega)
/-- the winner of a full trick -/
theorem oy_pl (E : ot_E b q0 e) (hok : ot_ok b q0 t l) (H : ot_Y b q0 t l yf yn yh yy yr) {k : Nat} (hk : 4 * (k + 1) ≤ l.length) : yr (nI (ot_tp t (ot_p l) (4 * k) 3)).toNatClampNeg = nI (ot_l q0 t l (k + 1)) := by
  have hin := ot_tp_in t (ot_p l) (4 * k) 3
  have hn := ot_E_len E hok
  rw [nI_clamp (by omega), H.2.2.2.2 _ (by omega), ot_l_next l k hk]
  have e1 : ot_tp t (ot_p l) (4 * k) 3 / 4 = k := by omega
  have e2 : ot_tp t (ot_p l) (4 * k) 3 % 4 = ot_tp t (ot_p l) (4 * k) 3 - 4 * k := by omega
  rw [e1, e2]
theorem oy_turn (E : ot_E b q0 e) (hok : ot_ok b q0 t l) (H : ot_Y b q0 t l yf yn yh yy yr) {post : Int32 → Prop} (K0 : ot_K (ot_g b q0 t l) = 0 → post (-4)) (K1 : ¬ ot_K (ot_g b q0 t l) = 0 → post (nI (ot_t q0 t l))) :
    wpY_turn post (yo, yf, t, yn, yh, yb, yy, yr, yu, yv, ys, yw) := by
  have hn := ot_E_len E hok
  obtain ⟨hf, hp, hh, hy, hr⟩ := id H
  subst hp
  have hle : ∀ c, c < 12 → ot_h b l c ≤ 4 := fun c hc => ot_h_le E.1 l hc
  unfold wpY_turn
  dsimp only
  by_cases h12 : l.length = 12
  · exact br_t (by rw [h12]; rfl) (K0 (ot_full E.2.1 E.2.2.1 E.2.2.2.1 hok (by omega)))
  · refine br_f (fun z => h12 ((nI_eq (b := 12) (by omega) (by decide)).mp z)) ?_
    refine oy_hand (p := 0) hh hle (by decide) ?_
    refine oy_hand (p := 1) hh hle (by decide) ?_
    refine oy_hand (p := 2) hh hle (by decide) ?_
    refine oy_hand (p := 3) hh hle (by decide) ?_
    by_cases h0 : ot_K (ot_g b q0 t l) = 0
    · have hz := ot_end E.2.1 E.2.2.1 l hok (ot_g_0.mp h0)
      exact br_t (ot_sum0.mpr ⟨ot_Kc.mpr (hz 0 (by decide)), ot_Kc.mpr (hz 1 (by decide)), ot_Kc.mpr (hz 2 (by decide)), ot_Kc.mpr (hz 3 (by decide))⟩) (K0 h0)
    · have hne : ¬ ot_K (fun c => ot_h b l c == 0) + ot_K (fun c => ot_h b l c == 1) + ot_K (fun c => ot_h b l c == 2) + ot_K (fun c => ot_h b l c == 3) = 0 := by
        intro z
        obtain ⟨z0, z1, z2, z3⟩ := ot_sum0.mp z
        apply h0
        rw [ot_g_0, ← ot_Kc]
        have htl := ot_t_lt q0 t l
        generalize ot_t q0 t l = T at htl
        rcases (show T = 0 ∨ T = 1 ∨ T = 2 ∨ T = 3 by omega) with rfl | rfl | rfl | rfl
        · exact z0
        · exact z1
        · exact z2
        · exact z3
      have e2 : nI l.length - nI l.length / 4 * 4 = nI (l.length % 4) := pk_rem (d := 4) (by omega) (by decide) (by decide)
      refine br_f hne (And.intro (by decide) ?_)
      rw [e2]
      have K := K1 h0
      by_cases hm : l.length % 4 = 0
      · refine br_t (by rw [hm]; exact nI_le (b := 0) (Nat.le_refl _) (by decide)) ?_
        by_cases hz : l.length = 0
        · have hl : l = [] := List.length_eq_zero_iff.mp hz
          refine br_t (by rw [hz]; rfl) ?_
          have et : ot_t q0 t l = q0 := by
            rw [hl]
            exact Nat.mod_eq_of_lt E.2.1
          rw [et] at K
          rw [hf]; exact K
        · have e3 : nI l.length - 4 = nI (4 * (l.length / 4 - 1)) := by
            have : nI l.length - nI 4 = nI (l.length - 4) := pk_sub (by omega)
            have h4 : l.length - 4 = 4 * (l.length / 4 - 1) := by omega
            rw [h4] at this
            exact this
          refine br_f (nI_ne0 (by omega) (by omega)) ?_
          rw [e3]
          refine oy_win (f := ot_p l) hn (by omega) hy (fun i _ => ot_p_lt hok i) ?_
          have hmin : min 3 (l.length - 4 * (l.length / 4 - 1) - 1) = 3 := by omega
          rw [hmin]
          have hin := ot_tp_in t (ot_p l) (4 * (l.length / 4 - 1)) 3
          refine And.intro (vp_in_nI (by omega) (by decide)) ?_
          have epl := oy_pl E hok H (k := l.length / 4 - 1) (by omega)
          have e5 : l.length / 4 - 1 + 1 = l.length / 4 := by omega
          rw [e5] at epl
          rw [epl]
          have et : ot_t q0 t l = ot_l q0 t l (l.length / 4) := by
            have := ot_l_lt E.2.1 t l (l.length / 4)
            unfold ot_t
            omega
          rw [et] at K
          exact K
      · refine br_f (nI_nle (by omega) (by omega)) ?_
        have e3 : nI l.length - 1 = nI (l.length - 1) := by
          have : nI l.length - nI 1 = nI (l.length - 1) := pk_sub (by omega)
          exact this
        rw [e3]
        have hl := ot_l_lt E.2.1 t l (l.length / 4)
        have e4 : yr (nI (l.length - 1)).toNatClampNeg + 1 = nI ((ot_l q0 t l (l.length / 4) + (l.length % 4 - 1)) % 4 + 1) := by
          have h1 : (l.length - 1) / 4 = l.length / 4 := by omega
          have h2 : (l.length - 1) % 4 = l.length % 4 - 1 := by omega
          rw [nI_clamp (by omega), hr _ (by omega), h1, h2]
          exact nI_1 _
        refine And.intro (vp_in_nI (by omega) (by decide)) (And.intro (by decide) ?_)
        rw [e4]
        have e5 : nI ((ot_l q0 t l (l.length / 4) + (l.length % 4 - 1)) % 4 + 1) - nI ((ot_l q0 t l (l.length / 4) + (l.length % 4 - 1)) % 4 + 1) / 4 * 4 = nI (((ot_l q0 t l (l.length / 4) + (l.length % 4 - 1)) % 4 + 1) % 4) := pk_rem (d := 4) (by omega) (by decide) (by decide)
        rw [e5]
        have et : ((ot_l q0 t l (l.length / 4) + (l.length % 4 - 1)) % 4 + 1) % 4 = ot_t q0 t l := by
          unfold ot_t
          omega
        rw [et]
        exact K
theorem oy_allowed (E : ot_E b q0 e) (hok : ot_ok b q0 t l) (H : ot_Y b q0 t l yf yn yh yy yr) {post : Int32 → Prop} (K : post (ot_K (ot_g b q0 t l))) :
    wpY_allowed post (yo, yf, t, yn, yh, yb, yy, yr, yu, yv, ys, yw) := by
  have hn := ot_E_len E hok
  have htl := ot_t_lt q0 t l
  obtain ⟨hf, hp, hh, hy, hr⟩ := id H
  subst hp
  have hle : ∀ c, c < 12 → ot_h b l c ≤ 4 := fun c hc => ot_h_le E.1 l hc
  have e2 : nI l.length - nI l.length / 4 * 4 = nI (l.length % 4) := pk_rem (d := 4) (by omega) (by decide) (by decide)
  unfold wpY_allowed
  dsimp only
  rw [e2]
  refine oy_turn E hok H (fun h0 => ?_) (fun h0 => ?_)
  · refine br_f (by decide) ?_
    rw [h0] at K
    exact K
  · refine br_t (nI_pos' (by omega)) ?_
    refine oy_hand hh hle (by omega) ?_
    have e3 : nI l.length - nI (l.length % 4) = nI (l.length - l.length % 4) := pk_sub (by omega)
    refine And.intro (by decide) (nm_r e3 (And.intro (by decide) ?_))
    by_cases hm : l.length % 4 = 0
    · refine br_t (by rw [hm]; rfl) (br_t rfl ?_)
      rw [ot_g_m0 hm] at K
      exact K
    · have hlt : l.length - l.length % 4 < l.length := by omega
      have hp := ot_p_lt hok (l.length - l.length % 4)
      have e4 : yy (nI (l.length - l.length % 4)).toNatClampNeg / 4 = nI (ot_p l (l.length - l.length % 4) / 4) := by
        rw [nI_clamp (by omega), hy _ hlt]
        exact pk_div (d := 4) (by omega) (by decide) (by decide)
      have e5 : ot_K (fun c => ot_h b l c == ot_t q0 t l) &&& ((15 : Int32) <<< ((4 * nI (ot_p l (l.length - l.length % 4) / 4)) &&& 31)) = ot_K (ot_f b q0 t l) := by
        have : 4 * nI (ot_p l (l.length - l.length % 4) / 4) = nI (4 * (ot_p l (l.length - l.length % 4) / 4)) := pk_mul 4 _
        rw [this, Nat.mul_comm, ot_15 _ (by omega), ot_K_and]
        rfl
      refine br_f (nI_ne0 (by omega) (by omega)) (And.intro (vp_in_nI (by omega) (by decide)) (And.intro (by decide) ?_))
      rw [e4, e5]
      by_cases hz : ot_K (ot_f b q0 t l) = 0
      · refine br_t hz ?_
        rw [ot_g_z hm hz] at K
        exact K
      · refine br_f hz ?_
        rw [ot_g_f hm hz] at K
        exact K
theorem oy_may (E : ot_E b q0 e) (hok : ot_ok b q0 t l) (H : ot_Y b q0 t l yf yn yh yy yr) {v : Int32} {post : Int32 → Prop} (K1 : ∀ c, c < 12 → v = nI c → ot_g b q0 t l c = true → post 1)
    (K0 : (∀ c, c < 12 → v = nI c → ot_g b q0 t l c = false) → post 0) : wpY_isAllowed post (yo, yf, t, yn, yh, yb, yy, yr, yu, yv, ys, yw) v := by
  unfold wpY_isAllowed
  dsimp only
  rcases pk_ix v (n := 12) (by decide) with h | h | ⟨j, hj, rfl⟩
  · exact br_t h (K0 (fun c hc z => absurd h (by rw [z]; exact nI_pos (by omega))))
  · have h0 : ¬ v < 0 := fun z => by
      rw [Int32.lt_iff_toInt_lt] at z
      rw [Int32.le_iff_toInt_le, nI_toInt (by decide)] at h
      have : (0 : Int32).toInt = 0 := by decide
      omega
    exact br_f h0 (br_t (ot_ge (n := 11) (by decide) h) (K0 (fun c hc z => absurd h (by rw [z]; exact nI_ge hc (by decide)))))
  · refine br_f (nI_pos (by omega)) (br_f (nI_nlt (a := 11) (by omega) (by decide)) ?_)
    refine oy_allowed E hok H ?_
    show ((ot_K (ot_g b q0 t l) >>> (nI j &&& 31)) &&& 1 = 1 → post 1) ∧ (¬ (ot_K (ot_g b q0 t l) >>> (nI j &&& 31)) &&& 1 = 1 → post 0)
    rw [ot_K_bit _ hj]
    by_cases hg : ot_g b q0 t l j = true
    · rw [if_pos hg]; exact br_t (by rfl) (K1 j hj rfl hg)
    · rw [if_neg hg]
      refine br_f (by decide) (K0 (fun c hc z => ?_))
      have : j = c := (nI_eq (by omega) (by omega)).mp z
      rw [← this]; simpa using hg
end
end
section
/-! the reference: lay, take back, tricks won, the search -/
section
variable {b : Nat → Nat} {q0 : Nat} {t : Int32} {e : Nat} {l : List Nat} {yo yf yn : Int32} {yh yb yy yr yu yv ys yw : Nat → Int32}
theorem oy_lay (E : ot_E b q0 e) {c : Nat} (hok : ot_ok b q0 t (c :: l)) (H : ot_Y b q0 t l yf yn yh yy yr) {post : SY → Prop}
    (K : ∀ yn' yh' yy' yr', ot_Y b q0 t (c :: l) yf yn' yh' yy' yr' → post (yo, yf, t, yn', yh', yb, yy', yr', yu, yv, ys, yw)) : wpY_lay post (yo, yf, t, yn, yh, yb, yy, yr, yu, yv, ys, yw) (nI c) := by
  have hn : l.length + 1 ≤ 12 := ot_E_len E hok
  have hc := hok.2.1
  obtain ⟨hf, hp, hh, hy, hr⟩ := H
  subst hp
  have ec : (nI c).toNatClampNeg = c := nI_clamp (by omega)
  have en : (nI l.length).toNatClampNeg = l.length := nI_clamp (by omega)
  have hi : vp_in (nI c) 12 := vp_in_nI hc (by decide)
  have hi2 : vp_in (nI l.length) 12 := vp_in_nI (by omega) (by decide)
  unfold wpY_lay
  dsimp only
  rw [ec, en]
  refine And.intro hi (And.intro hi2 (nm_e (And.intro hi2 (nm_e (And.intro hi (nm_e (nm_r (nI_1 _) (K _ _ _ _ ⟨hf, rfl, ?_, ?_, ?_⟩))))))))
  · intro x hx
    show upd yh c 4 x = nI (if x = c then 4 else ot_h b l x)
    by_cases h : x = c
    · rw [h, pk_us, if_pos rfl]; rfl
    · rw [pk_un h, if_neg h]; exact hh x hx
  · intro i hi
    have hi' : i < l.length + 1 := hi
    by_cases h : i = l.length
    · rw [h, pk_us, ot_p_top]
    · rw [pk_un h, ot_p_cons (by omega)]
      exact hy i (by omega)
  · intro i hi
    have hi' : i < l.length + 1 := hi
    rw [ot_l_cons (by omega)]
    by_cases h : i = l.length
    · rw [h, pk_us, hh c hc, ot_g_h hok.2.2]; rfl
    · rw [pk_un h]
      exact hr i (by omega)
theorem oy_back (E : ot_E b q0 e) {c : Nat} (hok : ot_ok b q0 t (c :: l)) (H : ot_Y b q0 t (c :: l) yf yn yh yy yr) {post : SY → Prop}
    (K : ∀ yh', ot_Y b q0 t l yf (nI l.length) yh' yy yr → yy l.length = nI c → post (yo, yf, t, nI l.length, yh', yb, yy, yr, yu, yv, ys, yw)) : wpY_takeBack post (yo, yf, t, yn, yh, yb, yy, yr, yu, yv, ys, yw) := by
  have hn : l.length + 1 ≤ 12 := ot_E_len E hok
  have hc := hok.2.1
  obtain ⟨hf, hp, hh, hy, hr⟩ := H
  have hL : (c :: l).length = l.length + 1 := rfl
  have ep : yn - 1 = nI l.length := by rw [hp, hL]; exact nI_pred _
  have en : (nI l.length).toNatClampNeg = l.length := nI_clamp (by omega)
  have ey : yy l.length = nI c := by rw [hy _ (by omega), ot_p_top]
  have ec : (nI c).toNatClampNeg = c := nI_clamp (by omega)
  have er : yr l.length = nI (ot_h b l c) := by
    rw [hr _ (by omega), ot_l_cons (Nat.le_refl _), ot_g_h hok.2.2]; rfl
  have hi2 : vp_in (nI l.length) 12 := vp_in_nI (by omega) (by decide)
  unfold wpY_takeBack
  dsimp only
  refine nm_r ep ?_
  rw [en, ey, ec, er]
  refine And.intro hi2 (And.intro hi2 (And.intro (vp_in_nI hc (by decide)) (nm_e (K _ ⟨hf, rfl, ?_, ?_, ?_⟩ ey))))
  · intro x hx
    by_cases h : x = c
    · rw [h, pk_us]
    · rw [pk_un h, hh x hx]
      exact congrArg nI (if_neg h)
  · intro i hi
    rw [hy i (by omega), ot_p_cons hi]
  · intro i hi
    rw [hr i (by omega), ot_l_cons (by omega)]
theorem oy_won (E : ot_E b q0 e) (hok : ot_ok b q0 t l) (H : ot_Y b q0 t l yf yn yh yy yr) {s : Nat} (hs : s < 2) {post : Int32 → Prop} (K : post (nI (ot_w q0 t l s (l.length / 4)))) :
    wpY_wonBy post (yo, yf, t, yn, yh, yb, yy, yr, yu, yv, ys, yw) (nI s) := by
  have hn := ot_E_len E hok
  obtain ⟨hf, hp, hh, hy, hr⟩ := id H
  subst hp
  have key : ∀ d k, k + d = l.length / 4 → wY_wonBy_4 post (nI s) yo yf t (nI l.length) yh yb yy yr yu yv ys yw (d + 1) (nI (ot_w q0 t l s k)) (nI (4 * k)) := by
    intro d
    induction d with
    | zero =>
      intro k hk
      have e4 : nI (4 * k) + 4 = nI (4 * k + 4) := nI_add _ 4
      refine br_t ?_ ?_
      · rw [e4]; exact nI_lt (by omega) (by omega)
      · have : k = l.length / 4 := by omega
        rw [this]; exact K
    | succ d ih =>
      intro k hk
      have e4 : nI (4 * k) + 4 = nI (4 * k + 4) := nI_add _ 4
      have e5 : nI (4 * k) + 4 = nI (4 * (k + 1)) := by rw [e4]; exact congrArg nI (by omega)
      have hl := ot_l_lt E.2.1 t l (k + 1)
      have epl := oy_pl E hok H (k := k) (by omega)
      have hin := ot_tp_in t (ot_p l) (4 * k) 3
      have e3 : nI (ot_l q0 t l (k + 1)) - nI (ot_l q0 t l (k + 1)) / 2 * 2 = nI (ot_l q0 t l (k + 1) % 2) := pk_rem (d := 2) (by omega) (by decide) (by decide)
      refine br_f (by rw [e4]; exact nI_nlt (by omega) (by omega)) ?_
      refine oy_win (f := ot_p l) hn (by omega) hy (fun i _ => ot_p_lt hok i) ?_
      have hmin : min 3 (l.length - 4 * k - 1) = 3 := by omega
      rw [hmin]
      refine And.intro (vp_in_nI (by omega) (by decide)) (And.intro (by decide) ?_)
      rw [epl, e3]
      have := ih (k + 1) (by omega)
      by_cases h : ot_l q0 t l (k + 1) % 2 = s
      · have ew : ot_w q0 t l s (k + 1) = ot_w q0 t l s k + 1 := by rw [ot_w, if_pos h]
        rw [ew] at this
        exact br_t (congrArg nI h) (nm_r (nI_1 _) (nm_r e5 this))
      · have ew : ot_w q0 t l s (k + 1) = ot_w q0 t l s k := by rw [ot_w, if_neg h]; rfl
        rw [ew] at this
        exact br_f (fun z => h ((nI_eq (by omega) (by omega)).mp z)) (nm_r e5 this)
  exact ⟨l.length / 4 + 1, key _ 0 (by omega)⟩
theorem oy_enter (E : ot_E b q0 e) (hok : ot_ok b q0 t l) (H : ot_Y b q0 t l yf yn yh yy yr) {d : Nat} (hd : d < 13) {post : SY → Prop}
    (K : post (yo, yf, t, yn, yh, yb, yy, yr, upd yu d (ot_K (ot_g b q0 t l)), upd yv d (ot_en 100 b q0 t l).1, upd ys d (ot_en 100 b q0 t l).2.2.1, upd yw d (ot_en 100 b q0 t l).2.2.2)) :
    wpY_enter post (yo, yf, t, yn, yh, yb, yy, yr, yu, yv, ys, yw) (nI d) := by
  have hin : vp_in (nI d) 13 := vp_in_nI hd (by decide)
  have ec : (nI d).toNatClampNeg = d := nI_clamp (by omega)
  have htl := ot_t_lt q0 t l
  unfold wpY_enter
  dsimp only
  rw [ec]
  refine oy_allowed E hok H ?_
  refine And.intro hin (nm_e (And.intro hin ?_))
  rw [pk_us]
  by_cases h0 : ot_K (ot_g b q0 t l) = 0
  · have een : ot_en 100 b q0 t l = (nI (ot_w q0 t l 0 (l.length / 4)), -4, nI (ot_w q0 t l 0 (l.length / 4)), 1) := by unfold ot_en; rw [if_pos h0]
    rw [een] at K
    refine br_t h0 ?_
    unfold wY_enter_24
    refine oy_won (s := 0) E hok H (by decide) ?_
    refine oy_turn E hok H (fun _ => ?_) (fun z => absurd h0 z)
    refine And.intro (by decide) (br_t (by decide) ?_)
    refine br_f (by decide) (And.intro hin ?_)
    rw [ec]
    refine nm_e (br_f (by decide) (And.intro hin ?_))
    rw [ec]
    exact nm_e (br_f (by decide) (And.intro hin (nm_e K)))
  · have een : ot_en 100 b q0 t l = ot_in 100 (ot_t q0 t l) := by unfold ot_en; rw [if_neg h0]
    rw [een] at K
    refine br_f h0 ?_
    unfold wY_enter_24
    refine oy_won (s := 0) E hok H (by decide) ?_
    refine oy_turn E hok H (fun z => absurd z h0) (fun _ => ?_)
    have e3 : nI (ot_t q0 t l) - nI (ot_t q0 t l) / 2 * 2 = nI (ot_t q0 t l % 2) := pk_rem (d := 2) (by omega) (by decide) (by decide)
    refine And.intro (by decide) ?_
    rw [e3]
    by_cases hT : ot_t q0 t l % 2 = 0
    · have ein : ot_in 100 (ot_t q0 t l) = (-1, -4, 100, 0) := by unfold ot_in; rw [if_pos hT]
      rw [ein] at K
      refine br_t (by rw [hT]; rfl) (br_t rfl (br_f (by decide) (And.intro hin ?_)))
      rw [ec]
      refine nm_e (br_t rfl (And.intro hin ?_))
      rw [ec]
      exact nm_e (br_t rfl (And.intro hin (nm_e K)))
    · have ein : ot_in 100 (ot_t q0 t l) = (100, -4, 100, 0) := by unfold ot_in; rw [if_neg hT]
      rw [ein] at K
      refine br_f (nI_ne0 (by omega) (by omega)) (br_t rfl (br_t rfl (And.intro hin ?_)))
      rw [ec]
      refine nm_e (br_t rfl (And.intro hin ?_))
      rw [ec]
      exact nm_e (br_t rfl (And.intro hin (nm_e K)))
theorem oy_leave (E : ot_E b q0 e) {c : Nat} (hok : ot_ok b q0 t (c :: l)) (H : ot_Y b q0 t l yf yn yh yy yr) {d : Nat} (hd : d + 1 < 13) {a a' : ot_A} (v1 : yv (d + 1) = a'.1) (s1 : ys (d + 1) = a'.2.2.1) (w1 : yw (d + 1) = a'.2.2.2)
    (v0 : yv d = a.1) (s0 : ys d = a.2.2.1) (w0 : yw d = a.2.2.2) {post : SY → Prop}
    (K : post (yo, yf, t, yn, yh, yb, yy, yr, yu, upd yv d (ot_st (ot_t q0 t l) a a' c).1, upd ys d (ot_st (ot_t q0 t l) a a' c).2.2.1, upd yw d (ot_st (ot_t q0 t l) a a' c).2.2.2)) :
    wpY_leave post (yo, yf, t, yn, yh, yb, yy, yr, yu, yv, ys, yw) (nI (d + 1)) := by
  have h0 : ¬ ot_K (ot_g b q0 t l) = 0 := fun z => by
    have := (ot_K_0 _).mp z c hok.2.1
    rw [hok.2.2] at this
    cases this
  have hin1 : vp_in (nI (d + 1)) 13 := vp_in_nI hd (by decide)
  have hin : vp_in (nI d) 13 := vp_in_nI (by omega) (by decide)
  have ec : (nI d).toNatClampNeg = d := nI_clamp (by omega)
  have ec1 : (nI (d + 1)).toNatClampNeg = d + 1 := nI_clamp (by omega)
  have em : nI (d + 1) - 1 = nI d := nI_pred d
  have htl := ot_t_lt q0 t l
  have e3 : nI (ot_t q0 t l) - nI (ot_t q0 t l) / 2 * 2 = nI (ot_t q0 t l % 2) := pk_rem (d := 2) (by omega) (by decide) (by decide)
  have tail : ∀ v : Int32, v = (ot_st (ot_t q0 t l) a a' c).1 → wY_leave_95 post (nI (d + 1)) v (nI d) yo yf t yn yh yb yy yr yu yv ys yw := by
    intro v hv
    subst hv
    refine And.intro hin ?_
    rw [em, ec, ec1, s0, s1]
    refine nm_e (And.intro hin1 (And.intro hin ?_))
    have last : ∀ s : Int32, s = (ot_st (ot_t q0 t l) a a' c).2.2.1 → wY_leave_137 post (nI (d + 1)) s (nI d) yo yf t yn yh yb yy yr yu (upd yv d (ot_st (ot_t q0 t l) a a' c).1) ys yw := by
      intro s hs
      subst hs
      refine And.intro hin ?_
      rw [em, ec, ec1, w0, w1]
      exact nm_e (And.intro hin (And.intro hin1 (And.intro hin (nm_e K))))
    by_cases hs : a'.2.2.1 < a.2.2.1
    · exact br_f (ot_nle hs) (And.intro hin1 (last _ (if_pos hs).symm))
    · exact br_t (Int32.not_lt.mp hs) (And.intro hin (last _ (if_neg hs).symm))
  have fin0 : ot_be (ot_t q0 t l) a'.1 a.1 = false → wY_leave_66 post (nI (d + 1)) 0 yo yf t yn yh yb yy yr yu yv ys yw := by
    intro hb
    refine br_t rfl ?_
    rw [em, ec, v0]
    exact And.intro hin (tail _ (if_neg (by rw [hb]; decide)).symm)
  have fin1 : ot_be (ot_t q0 t l) a'.1 a.1 = true → wY_leave_66 post (nI (d + 1)) 1 yo yf t yn yh yb yy yr yu yv ys yw := by
    intro hb
    refine br_f (by decide) ?_
    rw [em, ec1, v1]
    exact And.intro hin1 (tail _ (if_pos hb).symm)
  unfold wpY_leave
  dsimp only
  refine oy_turn E hok.1 H (fun z => absurd z h0) (fun _ => ?_)
  refine And.intro (by decide) ?_
  rw [e3]
  by_cases hT : ot_t q0 t l % 2 = 0
  · refine br_t (by rw [hT]; rfl) (br_f (by decide) ?_)
    rw [em, ec, ec1, v0, v1]
    refine And.intro hin1 (And.intro hin ?_)
    by_cases hv : a'.1 ≤ a.1
    · refine br_t hv (fin0 ?_)
      unfold ot_be
      rw [if_pos hT]
      exact decide_eq_false (Int32.not_lt.mpr hv)
    · refine br_f hv (fin1 ?_)
      unfold ot_be
      rw [if_pos hT]
      exact decide_eq_true (Int32.not_le.mp hv)
  · refine br_f (nI_ne0 (by omega) (by omega)) (br_t rfl ?_)
    rw [em, ec, ec1, v0, v1]
    refine And.intro hin1 (And.intro hin ?_)
    by_cases hv : a.1 ≤ a'.1
    · refine br_t hv (fin0 ?_)
      unfold ot_be
      rw [if_neg hT]
      exact decide_eq_false (Int32.not_lt.mpr hv)
    · refine br_f hv (fin1 ?_)
      unfold ot_be
      rw [if_neg hT]
      exact decide_eq_true (Int32.not_le.mp hv)
end
/-! the reference's search by steps: the depth stands beside the state -/
def oy_R (b : Nat → Nat) (q0 : Nat) (t yo yf : Int32) (yb : Nat → Int32) (B0 : Nat) (l : List Nat) (fs : List (List Nat × ot_A)) (w : Nat × SY) : Prop :=
  ∃ (yn : Int32) (yh yy yr yu yv yc ys yw : Nat → Int32), w.2 = (yo, yf, t, yn, yh, yb, yy, yr, yu, yv, ys, yw) ∧ ot_Y b q0 t l yf yn yh yy yr ∧ ot_F 0 yu yv yc ys yw fs ∧ l.length + 1 = B0 + fs.length ∧ fs.length = w.1 + 1
def oy_V (post : SY → Prop) (r : Nat) (w : Nat × SY) : Prop := match w.2 with
  | (yo, yf, yt, yn, yh, yb, yy, yr, yu, yv, ys, yw) => wY_search_7 post (r + 1) (nI w.1) yo yf yt yn yh yb yy yr yu yv ys yw
section
variable {b : Nat → Nat} {q0 : Nat} {t : Int32} {e : Nat} {yo yf : Int32} {yb : Nat → Int32}
theorem oy_scan {post : SY → Prop} {J : Int32 → Int32 → Int32 → Int32 → Int32 → (Nat → Int32) → (Nat → Int32) → (Nat → Int32) → (Nat → Int32) → (Nat → Int32) → (Nat → Int32) → (Nat → Int32) → (Nat → Int32) → Prop}
    {d : Nat} (hd : d < 13) {P : Nat → Bool} {c : Nat} {cs : List Nat} (hb : ot_bl P = c :: cs) {yn : Int32} {yh yy yr yu yv ys yw : Nat → Int32} (hu : yu d = ot_K P)
    (K : ∀ n, wY_search_22 post J (nI d) yo yf t yn yh yb yy yr yu yv ys yw (n + 1) (nI c)) : ∃ n, wY_search_22 post J (nI d) yo yf t yn yh yb yy yr yu yv ys yw n 0 := by
  obtain ⟨h1, h2, h3, _⟩ := ot_bl_cons hb
  have key : ∀ k j, j + k = c → wY_search_22 post J (nI d) yo yf t yn yh yb yy yr yu yv ys yw (k + 1) (nI j) := by
    intro k
    induction k with
    | zero =>
      intro j hj
      have : j = c := by omega
      rw [this]; exact K 0
    | succ k ih =>
      intro j hj
      refine And.intro (vp_in_nI hd (by decide)) ?_
      rw [nI_clamp (by omega), hu, ot_K_bit P (by omega), if_neg (by rw [h3 j (by omega)]; decide)]
      exact br_t rfl (nm_r (nI_1 _) (ih (j + 1) (by omega)))
  exact ⟨c + 1, key c 0 (by omega)⟩
theorem oy_S1 (E : ot_E b q0 e) (post : SY → Prop) (B0 : Nat) (r : Nat) (l : List Nat) (c : Nat) (cs : List Nat) (a : ot_A) (fs : List (List Nat × ot_A)) (w : Nat × SY) (_ : r < 1000000) (_ : ot_ok b q0 t l) (hc : ot_ok b q0 t (c :: l))
    (h : oy_R b q0 t yo yf yb B0 l ((c :: cs, a) :: fs) w)
    (K : ∀ w', oy_R b q0 t yo yf yb B0 (c :: l) ((ot_bl (ot_g b q0 t (c :: l)), ot_en 100 b q0 t (c :: l)) :: (cs, a) :: fs) w' → oy_V post r w') : oy_V post (r + 1) w := by
  obtain ⟨d, u⟩ := w
  obtain ⟨yn, yh, yy, yr, yu, yv, yc, ys, yw, hu, H, F, hlen, hd⟩ := h
  cases hu
  have hn : l.length + 1 ≤ 12 := ot_E_len E hc
  have hd' : fs.length = d := by rw [List.length_cons] at hd; exact Nat.succ.inj hd
  rw [List.length_cons] at hlen
  obtain ⟨⟨⟨P, hP1, hP2⟩, _⟩, _⟩ := id F
  rw [Nat.zero_add, hd'] at hP1
  have ec : (nI d).toNatClampNeg = d := nI_clamp (by omega)
  have hin : vp_in (nI d) 13 := vp_in_nI (by omega) (by decide)
  have hbc := ot_bl_cons hP2
  have hne : ¬ ot_K P = 0 := fun z => by
    have := (ot_K_0 _).mp z c hbc.1
    rw [hbc.2.1] at this
    cases this
  have hF : ot_F 0 (upd yu d (ot_K P &&& (((1 : Int32) <<< (nI c &&& 31)) ^^^ (-1)))) yv yc ys yw ((cs, a) :: fs) := by
    refine ot_F_take (by omega) F (fun P' hP' => ?_)
    rw [← hP1, hP', ot_1 c hc.2.1, ot_K_andn]
  show wY_search_7 post (r + 1 + 1) (nI d) yo yf t yn yh yb yy yr yu yv ys yw
  refine br_f (nI_pos (by omega)) (And.intro hin ?_)
  rw [ec, hP1]
  refine br_f hne (oy_scan (by omega) hP2 hP1 (fun n => ?_))
  refine And.intro hin ?_
  rw [ec, hP1, ot_K_bit P hbc.1, if_pos hbc.2.1]
  refine br_f (by decide) (And.intro hin (And.intro hin (nm_e ?_)))
  refine oy_lay E hc H (fun yn' yh' yy' yr' H' => ?_)
  refine nm_r (nI_1 _) ?_
  refine oy_enter E hc H' (by omega) ?_
  have := K (d + 1, (yo, yf, t, yn', yh', yb, yy', yr', upd (upd yu d (ot_K P &&& (((1 : Int32) <<< (nI c &&& 31)) ^^^ (-1)))) (d + 1) (ot_K (ot_g b q0 t (c :: l))), upd yv (d + 1) (ot_en 100 b q0 t (c :: l)).1, upd ys (d + 1) (ot_en 100 b q0 t (c :: l)).2.2.1, upd yw (d + 1) (ot_en 100 b q0 t (c :: l)).2.2.2))
    ⟨yn', yh', yy', yr', _, _, upd yc (d + 1) (ot_en 100 b q0 t (c :: l)).2.1, _, _, rfl, H', ot_F_new (by simp only [List.length_cons]; omega) hF ⟨_, rfl, rfl⟩ rfl rfl rfl rfl, by simp only [List.length_cons]; omega, by simp only [List.length_cons]; omega⟩
  exact this
theorem oy_S2 (E : ot_E b q0 e) (post : SY → Prop) (B0 : Nat) (r : Nat) (l : List Nat) (c : Nat) (cs : List Nat) (a a' : ot_A) (fs : List (List Nat × ot_A)) (w : Nat × SY) (_ : r < 1000000) (hc : ot_ok b q0 t (c :: l))
    (h : oy_R b q0 t yo yf yb B0 (c :: l) (([], a') :: (cs, a) :: fs) w)
    (K : ∀ w', oy_R b q0 t yo yf yb B0 l ((cs, ot_st (ot_t q0 t l) a a' c) :: fs) w' → oy_V post r w') : oy_V post (r + 1) w := by
  obtain ⟨d, u⟩ := w
  obtain ⟨yn, yh, yy, yr, yu, yv, yc, ys, yw, hu, H, F, hlen, hd⟩ := h
  cases hu
  have hn : l.length + 1 ≤ 12 := ot_E_len E hc
  have hd' : d = fs.length + 1 := by rw [List.length_cons, List.length_cons] at hd; exact (Nat.succ.inj hd).symm
  subst hd'
  rw [List.length_cons, List.length_cons, List.length_cons] at hlen
  obtain ⟨⟨⟨P, hP1, hP2⟩, hv1, hc1, hs1, hw1⟩, F2⟩ := id F
  obtain ⟨⟨hU0, hv0, hc0, hs0, hw0⟩, F3⟩ := id F2
  rw [Nat.zero_add, List.length_cons] at hP1 hv1 hs1 hw1
  rw [Nat.zero_add] at hv0 hs0 hw0
  have ec : (nI (fs.length + 1)).toNatClampNeg = fs.length + 1 := nI_clamp (by omega)
  have hin : vp_in (nI (fs.length + 1)) 13 := vp_in_nI (by omega) (by decide)
  have hz : ot_K P = 0 := (ot_K_0 _).mpr (ot_bl_nil.mp hP2)
  show wY_search_7 post (r + 1 + 1) (nI (fs.length + 1)) yo yf t yn yh yb yy yr yu yv ys yw
  refine br_f (nI_pos (by omega)) (And.intro hin ?_)
  rw [ec, hP1]
  refine br_t hz (br_f (nI_nle (by omega) (by omega)) ?_)
  refine oy_back E hc H (fun yh' H' _ => ?_)
  refine oy_leave E hc H' (by omega) hv1 hs1 hw1 hv0 hs0 hw0 ?_
  refine nm_r (pk_m1 _) ?_
  have := K (fs.length, (yo, yf, t, nI l.length, yh', yb, yy, yr, yu, upd yv fs.length (ot_st (ot_t q0 t l) a a' c).1, upd ys fs.length (ot_st (ot_t q0 t l) a a' c).2.2.1, upd yw fs.length (ot_st (ot_t q0 t l) a a' c).2.2.2))
    ⟨nI l.length, yh', yy, yr, yu, _, upd yc fs.length (ot_st (ot_t q0 t l) a a' c).2.1, _, _, rfl, H', ot_F_mod (Nat.zero_add _).symm F2, by simp only [List.length_cons]; omega, rfl⟩
  exact this
theorem oy_S3 (E : ot_E b q0 e) (post : SY → Prop) (l : List Nat) (a : ot_A) (w : Nat × SY) (h : oy_R b q0 t yo yf yb l.length l [([], a)] w) (K : post w.2) : oy_V post 1 w := by
  obtain ⟨d, u⟩ := w
  obtain ⟨yn, yh, yy, yr, yu, yv, yc, ys, yw, hu, H, F, hlen, hd⟩ := h
  cases hu
  have hd' : d = 0 := by
    have : (1 : Nat) = d + 1 := hd
    omega
  subst hd'
  obtain ⟨⟨⟨P, hP1, hP2⟩, _⟩, _⟩ := F
  have hz : ot_K P = 0 := (ot_K_0 _).mpr (ot_bl_nil.mp hP2)
  have ec : (nI 0).toNatClampNeg = 0 := nI_clamp (by omega)
  have h0 : yu 0 = ot_K P := hP1
  show wY_search_7 post (1 + 1) (nI 0) yo yf t yn yh yb yy yr yu yv ys yw
  refine br_f (nI_pos (by omega)) (And.intro (vp_in_nI (by omega) (by decide)) ?_)
  rw [ec, h0]
  refine br_t hz (br_t (nI_le (b := 0) (Nat.le_refl _) (by decide)) (nm_e ?_))
  exact br_t (by decide) K
theorem oy_search (E : ot_E b q0 e) {l : List Nat} (hok : ot_ok b q0 t l) {yn : Int32} {yh yy yr yu yv ys yw : Nat → Int32} (H : ot_Y b q0 t l yf yn yh yy yr) {post : SY → Prop}
    (K : ∀ (yh' yy' yr' yu' yv' ys' yw' : Nat → Int32), ot_Y b q0 t l yf (nI l.length) yh' yy' yr' → yv' 0 = (ot_rs 100 b q0 t 12 l).1 → ys' 0 = (ot_rs 100 b q0 t 12 l).2.2.1 → yw' 0 = (ot_rs 100 b q0 t 12 l).2.2.2 →
      post (yo, yf, t, nI l.length, yh', yb, yy', yr', yu', yv', ys', yw')) :
    wpY_search post (yo, yf, t, yn, yh, yb, yy, yr, yu, yv, ys, yw) := by
  have hn := ot_E_len E hok
  unfold wpY_search
  dsimp only
  refine oy_enter (d := 0) E hok H (by decide) ?_
  have hco := ot_co_le E.2.1 E.2.2.1 E.2.2.2.1 12 l hok hn
  have hT := ot_T_12 (12 - l.length) (by omega)
  rw [ot_co] at hco
  have hR : oy_R b q0 t yo yf yb l.length l [(ot_bl (ot_g b q0 t l), ot_en 100 b q0 t l)] (0, (yo, yf, t, yn, yh, yb, yy, yr, upd yu 0 (ot_K (ot_g b q0 t l)), upd yv 0 (ot_en 100 b q0 t l).1, upd ys 0 (ot_en 100 b q0 t l).2.2.1, upd yw 0 (ot_en 100 b q0 t l).2.2.2)) :=
    ⟨_, _, _, _, _, _, upd (fun _ => 0) 0 (ot_en 100 b q0 t l).2.1, _, _, rfl, H, ot_F_new (fs := []) rfl True.intro ⟨_, rfl, rfl⟩ rfl rfl rfl rfl, rfl, rfl⟩
  have main := ot_dfs E.2.1 E.2.2.1 E.2.2.2.1 100 1000000 (oy_V post) (oy_R b q0 t yo yf yb l.length) (oy_S1 E post l.length) (oy_S2 E post l.length) 11 l hok (by omega) (ot_bl (ot_g b q0 t l)) (fun c hc => ot_ok_bl hok hc)
    (ot_en 100 b q0 t l) [] 1 _ (by omega) hR (fun w' hw' => by
      refine oy_S3 E post l _ w' hw' ?_
      obtain ⟨d', u'⟩ := w'
      obtain ⟨yn', yh', yy', yr', yu', yv', yc', ys', yw', hu', H', F', _, _⟩ := hw'
      cases hu'
      have hp' : yn' = nI l.length := H'.2.1
      subst hp'
      obtain ⟨⟨_, h1, h2, h3, h4⟩, _⟩ := F'
      exact K yh' yy' yr' yu' yv' ys' yw' H' h1 h3 h4)
  exact ⟨_, main⟩
end
end
section
/-! deal, clear, start: both sides against a deal b -/
theorem ot_p4 (x : Int32) : x < -1 ∨ x = -1 ∨ (∃ p : Nat, p < 4 ∧ x = nI p) ∨ nI 4 ≤ x := by
  rcases pk_ix x (n := 4) (by decide) with h | h | h
  · by_cases h1 : x = -1
    · exact Or.inr (Or.inl h1)
    · refine Or.inl ?_
      have hn : ¬ x.toInt = (-1 : Int32).toInt := fun z => h1 (Int32.toInt_inj.mp z)
      rw [Int32.lt_iff_toInt_lt] at *
      have e0 : (0 : Int32).toInt = 0 := by decide
      have e1 : (-1 : Int32).toInt = -1 := by decide
      omega
  · exact Or.inr (Or.inr (Or.inr h))
  · exact Or.inr (Or.inr (Or.inl h))
/-- x is at least n: not below it, nor below anything less -/
theorem ot_nlt_ge {x : Int32} {n m : Nat} (hn : n < 2 ^ 31) (h : nI n ≤ x) (hm : m ≤ n) : ¬ x < nI m := by
  rw [Int32.le_iff_toInt_le, nI_toInt hn] at h
  rw [Int32.lt_iff_toInt_lt, nI_toInt (by omega)]
  omega
theorem ot_nlt_m1 {x : Int32} {n : Nat} (hn : n < 2 ^ 31) (h : nI n ≤ x) : ¬ x < -1 := by
  rw [Int32.le_iff_toInt_le, nI_toInt hn] at h
  rw [Int32.lt_iff_toInt_lt]
  have e1 : (-1 : Int32).toInt = -1 := by decide
  omega
theorem ot_nle_ge {x : Int32} {n m : Nat} (hn : n < 2 ^ 31) (h : nI n ≤ x) (hm : m < n) : ¬ x ≤ nI m := by
  rw [Int32.le_iff_toInt_le, nI_toInt hn] at h
  rw [Int32.le_iff_toInt_le, nI_toInt (by omega)]
  omega
theorem ot_nI_m1 (n : Nat) (hn : n < 2 ^ 31) : ¬ nI n < -1 := by
  rw [Int32.lt_iff_toInt_lt, nI_toInt hn]
  have e1 : (-1 : Int32).toInt = -1 := by decide
  omega
theorem ot_nI_ne_m1 (n : Nat) (hn : n < 2 ^ 31) : ¬ nI n = -1 := by
  intro z
  have := congrArg Int32.toInt z
  rw [nI_toInt hn] at this
  have e1 : (-1 : Int32).toInt = -1 := by decide
  omega
/-- the deal with card c at p (4: at nobody) -/
def ot_d (b : Nat → Nat) (c p : Nat) : Nat → Nat := fun i => if i = c then p else b i
section
variable {b : Nat → Nat} {xg xo xt xp : Int32} {xd xy xl xu xv xc xs xw : Nat → Int32} {yo yf yt yn : Int32} {yh yb yy yr yu yv ys yw : Nat → Int32}
theorem ox_size {P : Nat → Bool} {post : Int32 → Prop} (K : post (nI (ot_c P 12))) : wpX_size post (xg, xo, xt, xp, xd, xy, xl, xu, xv, xc, xs, xw) (ot_K P) := by
  have key : ∀ d k, k + d = 12 → wX_size_4 post (ot_K P) xg xo xt xp xd xy xl xu xv xc xs xw (d + 1) (nI (ot_c P k)) (nI k) := by
    intro d
    induction d with
    | zero =>
      intro k hk
      have : k = 12 := by omega
      subst this
      exact br_t (nI_le (a := 12) (by omega) (by omega)) K
    | succ d ih =>
      intro k hk
      have e1 : nI (ot_c P k) + (ot_K P >>> (nI k &&& 31) &&& 1) = nI (ot_c P (k + 1)) := by
        rw [ot_K_bit P (by omega), nI_add, ot_c]
      exact br_f (nI_ge (b := 12) (by omega) (by decide)) (nm_r e1 (nm_r (nI_1 _) (ih (k + 1) (by omega))))
  exact ⟨13, key 12 0 (by omega)⟩
theorem ox_d97 (hd : ∀ q, q < 4 → xd q = ot_K (fun i => b i == q)) {post : Int32 → SX → Prop} (K : post (nI (ot_c (fun i => decide (b i < 4)) 12)) (xg, xo, xt, xp, xd, xy, xl, xu, xv, xc, xs, xw)) :
    wX_deal_97 post xg xo xt xp xd xy xl xu xv xc xs xw := by
  unfold wX_deal_97
  have e1 : xd 0 ||| xd 1 ||| xd 2 ||| xd 3 = ot_K (fun i => decide (b i < 4)) := by
    rw [hd 0 (by decide), hd 1 (by decide), hd 2 (by decide), hd 3 (by decide), ot_K_or, ot_K_or, ot_K_or]
    apply ot_K_ext
    intro i _
    rw [Bool.eq_iff_iff]
    simp only [Bool.or_eq_true, beq_iff_eq, decide_eq_true_eq]
    omega
  rw [e1]
  exact ox_size K
theorem ox_d51 {c : Nat} (hc : c < 12) (hd : ∀ q, q < 4 → xd q = ot_K (fun i => b i == q)) {v : Int32} {p : Nat} (hv : v = -1 ∧ p = 4 ∨ v = nI p ∧ p < 4) {post : Int32 → SX → Prop}
    (K : ∀ xd' : Nat → Int32, (∀ q, q < 4 → xd' q = ot_K (fun i => ot_d b c p i == q)) → post (nI (ot_c (fun i => decide (ot_d b c p i < 4)) 12)) (0, 0, xt, 0, xd', xy, xl, xu, xv, xc, xs, xw)) :
    wX_deal_51 post v (ot_K (fun i => i == c)) xg xo xt xp xd xy xl xu xv xc xs xw := by
  have key : ∀ (d j : Nat) (xe : Nat → Int32), j + d = 4 → (∀ q, q < j → xe q = ot_K (fun i => b i == q && !(i == c))) → (∀ q, j ≤ q → q < 4 → xe q = ot_K (fun i => b i == q)) →
      wX_deal_58 post v (ot_K (fun i => i == c)) 0 0 xt 0 (d + 1) (nI j) xe xy xl xu xv xc xs xw := by
    intro d
    induction d with
    | zero =>
      intro j xe hj h1 h2
      have hj4 : j = 4 := by omega
      subst hj4
      refine br_t (nI_le (a := 4) (Nat.le_refl _) (by decide)) ?_
      rcases hv with ⟨hv, hp⟩ | ⟨hv, hp⟩
      · subst hv hp
        refine br_t (by decide) ?_
        have hd' : ∀ q, q < 4 → xe q = ot_K (fun i => ot_d b c 4 i == q) := by
          intro q hq
          rw [h1 q hq]
          apply ot_K_ext
          intro i _
          show (b i == q && !(i == c)) = ((if i = c then 4 else b i) == q)
          by_cases h : i = c
          · rw [if_pos h]
            have e1 : ((4 : Nat) == q) = false := by simp; omega
            rw [e1, h]; simp
          · rw [if_neg h]
            have e1 : (i == c) = false := by simpa using h
            rw [e1]; simp
        exact ox_d97 hd' (K xe hd')
      · subst hv
        have ec : (nI p).toNatClampNeg = p := nI_clamp (by omega)
        have hin : vp_in (nI p) 4 := vp_in_nI hp (by decide)
        refine br_f (nI_pos (by omega)) (And.intro hin (And.intro hin (nm_e ?_)))
        rw [ec]
        have hd' : ∀ q, q < 4 → upd xe p (xe p ||| ot_K (fun i => i == c)) q = ot_K (fun i => ot_d b c p i == q) := by
          intro q hq
          by_cases hqp : q = p
          · rw [hqp, pk_us, h1 p hp, ot_K_or]
            apply ot_K_ext
            intro i _
            show (b i == p && !(i == c) || i == c) = ((if i = c then p else b i) == p)
            by_cases h : i = c
            · rw [if_pos h, h]; simp
            · rw [if_neg h]
              have e1 : (i == c) = false := by simpa using h
              rw [e1]; simp
          · rw [pk_un hqp, h1 q hq]
            apply ot_K_ext
            intro i _
            show (b i == q && !(i == c)) = ((if i = c then p else b i) == q)
            by_cases h : i = c
            · rw [if_pos h]
              have e1 : (p == q) = false := by simp; omega
              rw [e1, h]; simp
            · rw [if_neg h]
              have e1 : (i == c) = false := by simpa using h
              rw [e1]; simp
        exact ox_d97 hd' (K _ hd')
    | succ d ih =>
      intro j xe hj h1 h2
      have ec : (nI j).toNatClampNeg = j := nI_clamp (by omega)
      have hin : vp_in (nI j) 4 := vp_in_nI (by omega) (by decide)
      refine br_f (nI_ge (b := 4) (by omega) (by decide)) (And.intro hin (And.intro hin (nm_e (nm_r (nI_1 _) ?_))))
      rw [ec, h2 j (Nat.le_refl _) (by omega), ot_K_andn]
      refine ih (j + 1) _ (by omega) (fun q hq => ?_) (fun q hq1 hq2 => ?_)
      · by_cases h : q = j
        · rw [h, pk_us]
        · rw [pk_un h]; exact h1 q (by omega)
      · rw [pk_un (by omega)]; exact h2 q (by omega) hq2
  unfold wX_deal_51 wpX_endPlay
  dsimp only
  exact ⟨5, key 4 0 xd (by omega) (fun q hq => by omega) (fun q _ hq => hd q hq)⟩
theorem oy_first (hF : ∀ c, c < 12 → (if yo = 0 then yh c else yb c) = nI (b c)) {c : Nat} (hc : c < 12) {post : Int32 → Prop} (K : post (nI (b c))) : wpY_heldAtFirst post (yo, yf, yt, yn, yh, yb, yy, yr, yu, yv, ys, yw) (nI c) := by
  have h := hF c hc
  have ec : (nI c).toNatClampNeg = c := nI_clamp (by omega)
  have hin : vp_in (nI c) 12 := vp_in_nI hc (by decide)
  unfold wpY_heldAtFirst
  dsimp only
  rw [ec]
  by_cases ho : yo = 0
  · rw [if_pos ho] at h
    rw [h]
    exact br_t ho (And.intro hin K)
  · rw [if_neg ho] at h
    rw [h]
    exact br_f ho (And.intro hin K)
theorem oy_d78 (hb : ∀ i, i < 12 → b i ≤ 4) {c : Nat} (hc : c < 12) (hF : ∀ c, c < 12 → (if yo = 0 then yh c else yb c) = nI (b c)) {v : Int32} {p : Nat} (hv : v = -1 ∧ p = 4 ∨ v = nI p ∧ p < 4) {post : Int32 → SY → Prop}
    (K : ∀ yh' : Nat → Int32, (∀ i, i < 12 → yh' i = nI (ot_d b c p i)) → post (nI (ot_c (fun i => decide (ot_d b c p i < 4)) 12)) (0, yf, yt, 0, yh', yb, yy, yr, yu, yv, ys, yw)) :
    ∃ n, wY_deal_78 post (nI c) v yo yf yt yn n 0 0 yh yb yy yr yu yv ys yw := by
  have hp4 : p ≤ 4 := by omega
  have key : ∀ (d k : Nat) (ye : Nat → Int32), k + d = 12 → (∀ i, i < k → ye i = nI (ot_d b c p i)) → (∀ i, k ≤ i → i < 12 → (if yo = 0 then ye i else yb i) = nI (b i)) →
      wY_deal_78 post (nI c) v yo yf yt yn (d + 1) (nI (ot_c (fun i => decide (ot_d b c p i < 4)) k)) (nI k) ye yb yy yr yu yv ys yw := by
    intro d
    induction d with
    | zero =>
      intro k ye hk h1 h2
      have hk12 : k = 12 := by omega
      subst hk12
      exact br_t (nI_le (a := 12) (Nat.le_refl _) (by decide)) (K ye h1)
    | succ d ih =>
      intro k ye hk h1 h2
      have ec : (nI k).toNatClampNeg = k := nI_clamp (by omega)
      have hin : vp_in (nI k) 12 := vp_in_nI (by omega) (by decide)
      have step : ∀ z : Int32, z = nI (ot_d b c p k) → wY_deal_115 post (wY_deal_78 post (nI c) v yo yf yt yn (d + 1)) (nI c) v (nI (ot_c (fun i => decide (ot_d b c p i < 4)) k)) (nI k) z (nI k) yo yf yt yn ye yb yy yr yu yv ys yw := by
        intro z hz
        subst hz
        have hle : ot_d b c p k ≤ 4 := by
          unfold ot_d
          have := hb k (by omega)
          split <;> omega
        refine And.intro hin ?_
        rw [ec]
        refine nm_e (And.intro hin ?_)
        rw [pk_us]
        have nx := ih (k + 1) (upd ye k (nI (ot_d b c p k))) (by omega) (fun i hi => by
          by_cases h : i = k
          · rw [h, pk_us]
          · rw [pk_un h]; exact h1 i (by omega)) (fun i hi1 hi2 => by
          rw [pk_un (by omega)]; exact h2 i (by omega) hi2)
        by_cases h4 : ot_d b c p k < 4
        · have ew : ot_c (fun i => decide (ot_d b c p i < 4)) (k + 1) = ot_c (fun i => decide (ot_d b c p i < 4)) k + 1 := by
            rw [ot_c, if_pos (decide_eq_true h4)]
          rw [ew] at nx
          exact br_f (nI_ge (b := 4) h4 (by decide)) (nm_r (nI_1 _) (nm_r (nI_1 _) nx))
        · have ew : ot_c (fun i => decide (ot_d b c p i < 4)) (k + 1) = ot_c (fun i => decide (ot_d b c p i < 4)) k := by
            rw [ot_c, if_neg (by simpa using h4)]; rfl
          rw [ew] at nx
          exact br_t (nI_le (a := 4) (by omega) (by omega)) (nm_r (nI_1 _) nx)
      refine br_f (nI_ge (b := 12) (by omega) (by decide)) ?_
      by_cases hkc : k = c
      · refine br_t (congrArg nI hkc) ?_
        have ed : ot_d b c p k = p := if_pos hkc
        rcases hv with ⟨hv, hp⟩ | ⟨hv, hp⟩
        · refine br_f (by rw [hv]; decide) (step 4 ?_)
          rw [ed, hp]; rfl
        · refine br_t (by rw [hv]; exact nI_pos' (by omega)) (step v ?_)
          rw [ed, hv]
      · refine br_f (fun z => hkc ((nI_eq (by omega) (by omega)).mp z)) ?_
        have ed : ot_d b c p k = b k := if_neg hkc
        have hk2 := h2 k (Nat.le_refl _) (by omega)
        unfold wpY_heldAtFirst
        dsimp only
        rw [ec]
        by_cases ho : yo = 0
        · rw [if_pos ho] at hk2
          exact br_t ho (And.intro hin (step _ (by rw [hk2, ed])))
        · rw [if_neg ho] at hk2
          exact br_f ho (And.intro hin (step _ (by rw [hk2, ed])))
  have := key 12 0 yh (by omega) (fun i hi => by omega) (fun i _ hi => hF i hi)
  exact ⟨13, this⟩
theorem oy_d27 (hb : ∀ i, i < 12 → b i ≤ 4) {c : Nat} (hc : c < 12) (hF : ∀ c, c < 12 → (if yo = 0 then yh c else yb c) = nI (b c)) {v : Int32} {Q : Nat → Bool} (hQc : Q c = false) (hQ : ∀ i, i < 12 → i ≠ c → (nI (b i) = v ↔ Q i = true)) {post : Int32 → SY → Prop}
    (K3 : ot_c Q 12 = 3 → post (-2) (yo, yf, yt, yn, yh, yb, yy, yr, yu, yv, ys, yw)) (K : ot_c Q 12 ≠ 3 → ∃ n, wY_deal_78 post (nI c) v yo yf yt yn n 0 0 yh yb yy yr yu yv ys yw) :
    ∃ n, wY_deal_27 post (nI c) v yo yf yt yn yh yb yy yr yu yv ys yw n 0 0 := by
  have key : ∀ d k, k + d = 12 → wY_deal_27 post (nI c) v yo yf yt yn yh yb yy yr yu yv ys yw (d + 1) (nI (ot_c Q k)) (nI k) := by
    intro d
    induction d with
    | zero =>
      intro k hk
      have hk12 : k = 12 := by omega
      subst hk12
      have hle := ot_c_le Q 12
      refine br_t (nI_le (a := 12) (Nat.le_refl _) (by decide)) ?_
      by_cases h3 : ot_c Q 12 = 3
      · exact br_t (by rw [h3]; rfl) (K3 h3)
      · exact br_f (fun z => h3 ((nI_eq (b := 3) (by omega) (by decide)).mp z)) (K h3)
    | succ d ih =>
      intro k hk
      have nx := ih (k + 1) (by omega)
      refine br_f (nI_ge (b := 12) (by omega) (by decide)) ?_
      by_cases hkc : k = c
      · have ew : ot_c Q (k + 1) = ot_c Q k := by rw [ot_c, hkc, hQc]; rfl
        rw [ew] at nx
        exact br_t (congrArg nI hkc) (nm_r (nI_1 _) nx)
      · refine br_f (fun z => hkc ((nI_eq (by omega) (by omega)).mp z)) ?_
        refine oy_first hF (by omega) ?_
        have hq := hQ k (by omega) hkc
        by_cases hz : Q k = true
        · have ew : ot_c Q (k + 1) = ot_c Q k + 1 := by rw [ot_c, if_pos hz]
          rw [ew] at nx
          exact br_t (hq.mpr hz) (nm_r (nI_1 _) (nm_r (nI_1 _) nx))
        · have ew : ot_c Q (k + 1) = ot_c Q k := by rw [ot_c, if_neg hz]; rfl
          rw [ew] at nx
          exact br_f (fun z => hz (hq.mp z)) (nm_r (nI_1 _) nx)
  exact ⟨13, key 12 0 (by omega)⟩
end
end
section
/-! start and clear -/
def ot_s (b : Nat → Nat) : Nat → Nat
  | 0 => 0
  | n + 1 => ot_s b n + 16 ^ b n
theorem ot_s_eq {b : Nat → Nat} : ∀ n, (∀ i, i < n → b i ≤ 4) → ot_s b n = ot_c (fun i => b i == 0) n + 16 * ot_c (fun i => b i == 1) n + 256 * ot_c (fun i => b i == 2) n + 4096 * ot_c (fun i => b i == 3) n + 65536 * ot_c (fun i => b i == 4) n := by
  intro n
  induction n with
  | zero => intro _; rfl
  | succ n ih =>
    intro h
    have h1 := ih (fun i hi => h i (by omega))
    have h2 := h n (by omega)
    rw [ot_s, h1]
    simp only [ot_c]
    rcases (show b n = 0 ∨ b n = 1 ∨ b n = 2 ∨ b n = 3 ∨ b n = 4 by omega) with hz | hz | hz | hz | hz <;> simp [hz] <;> omega
theorem ot_digF : ∀ a b c d : Fin 4, a.val + 16 * b.val + 256 * c.val + 4096 * d.val = a.val * 4369 → (b.val = a.val ∧ c.val = a.val ∧ d.val = a.val) := by decide +kernel
theorem ot_dig (a : Nat) (ha : a < 4) (b : Nat) (hb : b < 4) (c : Nat) (hc : c < 4) (d : Nat) (hd : d < 4) (h : a + 16 * b + 256 * c + 4096 * d = a * 4369) : b = a ∧ c = a ∧ d = a :=
  ot_digF ⟨a, ha⟩ ⟨b, hb⟩ ⟨c, hc⟩ ⟨d, hd⟩ h
theorem ot_pw : ∀ p, p ≤ 4 → (1 : Int32) <<< ((4 * nI p) &&& 31) = nI (16 ^ p) := by decide +kernel
theorem nx_15 (k : Nat) : nI k &&& 15 = nI (k % 16) := by
  show nI k &&& nI 15 = _
  rw [nx_and, show (15 : Nat) = 2 ^ 4 - 1 from rfl, Nat.and_two_pow_sub_one_eq_mod]
theorem nx_16 (k : Nat) : nI k &&& 65535 = nI (k % 65536) := by
  show nI k &&& nI 65535 = _
  rw [nx_and, show (65535 : Nat) = 2 ^ 16 - 1 from rfl, Nat.and_two_pow_sub_one_eq_mod]
section
variable {b : Nat → Nat} {xg xo xt xp : Int32} {xd xy xl xu xv xc xs xw : Nat → Int32} {yo yf yt yn : Int32} {yh yb yy yr yu yv ys yw : Nat → Int32}
/-- all four have the same number of cards, at least one -/
def ot_same (b : Nat → Nat) : Prop := 1 ≤ ot_c (fun i => b i == 0) 12 ∧ ∀ p, p < 4 → ot_c (fun i => b i == p) 12 = ot_c (fun i => b i == 0) 12
theorem ox_start (hd : ∀ q, q < 4 → xd q = ot_K (fun i => b i == q)) {x1 x2 : Int32} {post : Int32 → SX → Prop}
    (K0 : ¬ ot_same b → post (-4) (xg, xo, xt, xp, xd, xy, xl, xu, xv, xc, xs, xw))
    (K1 : ot_same b → post (nI (ot_c (fun i => b i == 0) 12)) (0, 1, x2, 0, xd, xy, upd xl 0 x1, xu, xv, xc, xs, xw)) :
    wpX_size (fun r_5 => (((r_5 = 0 → (post (-4) (xg, xo, xt, xp, xd, xy, xl, xu, xv, xc, xs, xw))) ∧ (¬ r_5 = 0 → (∃ n42 : Nat, wX_start_42 post x1 x2 r_5 xg xo xt xp xd xy xl xu xv xc xs xw n42 1))))) (xg, xo, xt, xp, xd, xy, xl, xu, xv, xc, xs, xw) (xd 0) := by
  rw [hd 0 (by decide)]
  refine ox_size ?_
  have hle := ot_c_le (fun i => b i == 0) 12
  by_cases hz : ot_c (fun i => b i == 0) 12 = 0
  · exact br_t (by rw [hz]; rfl) (K0 (fun z => by have := z.1; omega))
  · refine br_f (nI_ne0 (by omega) (by omega)) ?_
    have key : ∀ d j, j + d = 4 → (∀ p, p < j → ot_c (fun i => b i == p) 12 = ot_c (fun i => b i == 0) 12) →
        wX_start_42 post x1 x2 (nI (ot_c (fun i => b i == 0) 12)) xg xo xt xp xd xy xl xu xv xc xs xw (d + 1) (nI j) := by
      intro d
      induction d with
      | zero =>
        intro j hj h
        have hj4 : j = 4 := by omega
        subst hj4
        refine br_t (nI_le (a := 4) (Nat.le_refl _) (by decide)) ?_
        unfold wpX_endPlay
        dsimp only
        exact nm_e (K1 ⟨by omega, h⟩)
      | succ d ih =>
        intro j hj h
        refine br_f (nI_ge (b := 4) (by omega) (by decide)) (And.intro (vp_in_nI (by omega) (by decide)) ?_)
        rw [nI_clamp (by omega), hd j (by omega)]
        refine ox_size ?_
        have hle2 := ot_c_le (fun i => b i == j) 12
        by_cases hq : ot_c (fun i => b i == j) 12 = ot_c (fun i => b i == 0) 12
        · refine br_t (congrArg nI hq) (nm_r (nI_1 _) (ih (j + 1) (by omega) (fun p hp => ?_)))
          by_cases hpj : p = j
          · rw [hpj]; exact hq
          · exact h p (by omega)
        · exact br_f (fun z => hq ((nI_eq (by omega) (by omega)).mp z)) (K0 (fun z => hq (z.2 j (by omega))))
    have := key 3 1 (by omega) (fun p hp => by
      have : p = 0 := by omega
      rw [this])
    exact ⟨4, this⟩
theorem oy_s98 (hF : ∀ c, c < 12 → (if yo = 0 then yh c else yb c) = nI (b c)) {x1 x2 x4 : Int32} {post : Int32 → SY → Prop}
    (K : ∀ yh' yb' : Nat → Int32, (∀ i, i < 12 → yh' i = nI (b i)) → (∀ i, i < 12 → yb' i = nI (b i)) → post x4 (1, x1, x2, 0, yh', yb', yy, yr, yu, yv, ys, yw)) :
    ∃ n, wY_start_98 post x1 x2 x4 yo yf yt yn n 0 yh yb yy yr yu yv ys yw := by
  have key : ∀ (d k : Nat) (ye yg : Nat → Int32), k + d = 12 → (∀ i, i < k → ye i = nI (b i) ∧ yg i = nI (b i)) → (∀ i, k ≤ i → i < 12 → (if yo = 0 then ye i else yg i) = nI (b i)) →
      wY_start_98 post x1 x2 x4 yo yf yt yn (d + 1) (nI k) ye yg yy yr yu yv ys yw := by
    intro d
    induction d with
    | zero =>
      intro k ye yg hk h1 h2
      have hk12 : k = 12 := by omega
      subst hk12
      exact br_t (nI_le (a := 12) (Nat.le_refl _) (by decide)) (K ye yg (fun i hi => (h1 i hi).1) (fun i hi => (h1 i hi).2))
    | succ d ih =>
      intro k ye yg hk h1 h2
      have ec : (nI k).toNatClampNeg = k := nI_clamp (by omega)
      have hin : vp_in (nI k) 12 := vp_in_nI (by omega) (by decide)
      have hk2 := h2 k (Nat.le_refl _) (by omega)
      refine br_f (nI_ge (b := 12) (by omega) (by decide)) ?_
      have nx : ∀ z : Int32, z = nI (b k) → wY_start_98 post x1 x2 x4 yo yf yt yn (d + 1) (nI (k + 1)) (upd ye k (upd yg k z k)) (upd yg k z) yy yr yu yv ys yw := by
        intro z hz
        refine ih (k + 1) _ _ (by omega) (fun i hi => ?_) (fun i hi1 hi2 => ?_)
        · by_cases h : i = k
          · rw [h, pk_us, pk_us]; exact ⟨hz, hz⟩
          · rw [pk_un h, pk_un h]; exact h1 i (by omega)
        · rw [pk_un (by omega), pk_un (by omega)]; exact h2 i (by omega) hi2
      unfold wpY_heldAtFirst
      dsimp only
      rw [ec]
      by_cases ho : yo = 0
      · rw [if_pos ho] at hk2
        exact br_t ho (And.intro hin (And.intro hin (nm_e (And.intro hin (And.intro hin (nm_e (nm_r (nI_1 _) (nx _ hk2))))))))
      · rw [if_neg ho] at hk2
        exact br_f ho (And.intro hin (And.intro hin (nm_e (And.intro hin (And.intro hin (nm_e (nm_r (nI_1 _) (nx _ hk2))))))))
  exact ⟨13, key 12 0 yh yb (by omega) (fun i hi => by omega) (fun i _ hi => hF i hi)⟩
theorem oy_s26 (hb : ∀ i, i < 12 → b i ≤ 4) (h3 : ∀ p, p < 4 → ot_c (fun i => b i == p) 12 ≤ 3) (hF : ∀ c, c < 12 → (if yo = 0 then yh c else yb c) = nI (b c)) {x1 x2 : Int32} {post : Int32 → SY → Prop}
    (K0 : ¬ ot_same b → post (-4) (yo, yf, yt, yn, yh, yb, yy, yr, yu, yv, ys, yw))
    (K1 : ot_same b → ∀ yh' yb' : Nat → Int32, (∀ i, i < 12 → yh' i = nI (b i)) → (∀ i, i < 12 → yb' i = nI (b i)) → post (nI (ot_c (fun i => b i == 0) 12)) (1, x1, x2, 0, yh', yb', yy, yr, yu, yv, ys, yw)) :
    ∃ n, wY_start_26 post x1 x2 yo yf yt yn yh yb yy yr yu yv ys yw n 0 0 := by
  have key : ∀ d k, k + d = 12 → wY_start_26 post x1 x2 yo yf yt yn yh yb yy yr yu yv ys yw (d + 1) (nI (ot_s b k)) (nI k) := by
    intro d
    induction d with
    | zero =>
      intro k hk
      have hk12 : k = 12 := by omega
      subst hk12
      have hs := ot_s_eq 12 hb
      have c0 := h3 0 (by decide)
      have c1 := h3 1 (by decide)
      have c2 := h3 2 (by decide)
      have c3 := h3 3 (by decide)
      have c4 := ot_c_le (fun i => b i == 4) 12
      have e1 : nI (ot_s b 12) &&& 15 = nI (ot_c (fun i => b i == 0) 12) := by
        rw [nx_15]; exact congrArg nI (by omega)
      have e2 : nI (ot_s b 12) &&& 65535 = nI (ot_c (fun i => b i == 0) 12 + 16 * ot_c (fun i => b i == 1) 12 + 256 * ot_c (fun i => b i == 2) 12 + 4096 * ot_c (fun i => b i == 3) 12) := by
        rw [nx_16]; exact congrArg nI (by omega)
      have e3 : nI (ot_c (fun i => b i == 0) 12) * 4369 = nI (ot_c (fun i => b i == 0) 12 * 4369) := pk_mul _ 4369
      have hsame : (1 ≤ ot_c (fun i => b i == 0) 12 ∧ ot_c (fun i => b i == 1) 12 = ot_c (fun i => b i == 0) 12 ∧ ot_c (fun i => b i == 2) 12 = ot_c (fun i => b i == 0) 12 ∧ ot_c (fun i => b i == 3) 12 = ot_c (fun i => b i == 0) 12) ↔ ot_same b := by
        constructor
        · rintro ⟨h, g1, g2, g3⟩
          refine ⟨h, fun p hp => ?_⟩
          rcases (show p = 0 ∨ p = 1 ∨ p = 2 ∨ p = 3 by omega) with rfl | rfl | rfl | rfl
          · rfl
          · exact g1
          · exact g2
          · exact g3
        · intro h
          exact ⟨h.1, h.2 1 (by decide), h.2 2 (by decide), h.2 3 (by decide)⟩
      rw [← hsame] at K0 K1
      refine br_t (nI_le (a := 12) (Nat.le_refl _) (by decide)) (nm_r e1 ?_)
      rw [e2, e3]
      generalize ot_c (fun i => b i == 0) 12 = A0 at *
      generalize ot_c (fun i => b i == 1) 12 = A1 at *
      generalize ot_c (fun i => b i == 2) 12 = A2 at *
      generalize ot_c (fun i => b i == 3) 12 = A3 at *
      have tail : ∀ z0 : Int32, (z0 = 0 ∧ ¬ (A1 = A0 ∧ A2 = A0 ∧ A3 = A0) ∨ z0 = 1 ∧ (A1 = A0 ∧ A2 = A0 ∧ A3 = A0)) → wY_start_80 post x1 x2 (nI A0) z0 yo yf yt yn yh yb yy yr yu yv ys yw := by
        intro z0 hz0
        by_cases ha : A0 = 0
        · exact br_t (by rw [ha]; rfl) (K0 (fun z => by have := z.1; omega))
        · refine br_f (nI_ne0 (by omega) (by omega)) ?_
          rcases hz0 with ⟨hz0, hn⟩ | ⟨hz0, hn⟩
          · exact br_t hz0 (K0 (fun z => hn z.2))
          · refine br_f (by rw [hz0]; decide) ?_
            exact oy_s98 hF (K1 ⟨by omega, hn⟩)
      by_cases hq : A0 + 16 * A1 + 256 * A2 + 4096 * A3 = A0 * 4369
      · exact br_t (congrArg nI hq) (tail 1 (Or.inr ⟨rfl, ot_dig A0 (by omega) A1 (by omega) A2 (by omega) A3 (by omega) hq⟩))
      · exact br_f (fun z => hq ((nI_eq (by omega) (by omega)).mp z)) (tail 0 (Or.inl ⟨rfl, by omega⟩))
    | succ d ih =>
      intro k hk
      refine br_f (nI_ge (b := 12) (by omega) (by decide)) ?_
      refine oy_first hF (by omega) ?_
      have e1 : nI (ot_s b k) + ((1 : Int32) <<< ((4 * nI (b k)) &&& 31)) = nI (ot_s b (k + 1)) := by
        rw [ot_pw _ (hb k (by omega)), nI_add, ot_s]
      exact nm_r e1 (nm_r (nI_1 _) (ih (k + 1) (by omega)))
  exact ⟨13, key 12 0 (by omega)⟩
theorem ox_clear {post : SX → Prop} (K : ∀ xd' : Nat → Int32, (∀ q, q < 4 → xd' q = 0) → post (0, 0, xt, 0, xd', xy, xl, xu, xv, xc, xs, xw)) : wpX_clear post (xg, xo, xt, xp, xd, xy, xl, xu, xv, xc, xs, xw) := by
  have key : ∀ (d j : Nat) (xe : Nat → Int32), j + d = 4 → (∀ q, q < j → xe q = 0) → wX_clear_6 post 0 0 xt 0 (d + 1) (nI j) xe xy xl xu xv xc xs xw := by
    intro d
    induction d with
    | zero =>
      intro j xe hj h
      have hj4 : j = 4 := by omega
      subst hj4
      exact br_t (nI_le (a := 4) (Nat.le_refl _) (by decide)) (K xe h)
    | succ d ih =>
      intro j xe hj h
      refine br_f (nI_ge (b := 4) (by omega) (by decide)) (And.intro (vp_in_nI (by omega) (by decide)) (nm_e (nm_r (nI_1 _) ?_)))
      rw [nI_clamp (by omega)]
      refine ih (j + 1) _ (by omega) (fun q hq => ?_)
      by_cases hqj : q = j
      · rw [hqj, pk_us]
      · rw [pk_un hqj]; exact h q (by omega)
  unfold wpX_clear wpX_endPlay
  dsimp only
  exact ⟨5, key 4 0 xd (by omega) (fun q hq => by omega)⟩
theorem oy_clear {post : SY → Prop} (K : ∀ yh' : Nat → Int32, (∀ i, i < 12 → yh' i = 4) → post (0, yf, yt, 0, yh', yb, yy, yr, yu, yv, ys, yw)) : wpY_clear post (yo, yf, yt, yn, yh, yb, yy, yr, yu, yv, ys, yw) := by
  have key : ∀ (d j : Nat) (ye : Nat → Int32), j + d = 12 → (∀ q, q < j → ye q = 4) → wY_clear_2 post yo yf yt yn (d + 1) (nI j) ye yb yy yr yu yv ys yw := by
    intro d
    induction d with
    | zero =>
      intro j ye hj h
      have hj4 : j = 12 := by omega
      subst hj4
      exact br_t (nI_le (a := 12) (Nat.le_refl _) (by decide)) (K ye h)
    | succ d ih =>
      intro j ye hj h
      refine br_f (nI_ge (b := 12) (by omega) (by decide)) (And.intro (vp_in_nI (by omega) (by decide)) (nm_e (nm_r (nI_1 _) ?_)))
      rw [nI_clamp (by omega)]
      refine ih (j + 1) _ (by omega) (fun q hq => ?_)
      by_cases hqj : q = j
      · rw [hqj, pk_us]
      · rw [pk_un hqj]; exact h q (by omega)
  exact ⟨13, key 12 0 yh (by omega) (fun q hq => by omega)⟩
end
end
section
/-! the relation -/
def ot_B (b : Nat → Nat) : Prop := (∀ c, c < 12 → b c ≤ 4) ∧ ∀ p, p < 4 → ot_c (fun i => b i == p) 12 ≤ 3
def ot_off (b : Nat → Nat) (u : SX) (v : SY) : Prop :=
  ∃ (xt : Int32) (xd xy xl xu xv xc xs xw : Nat → Int32) (yf yt : Int32) (yh yb yy yr yu yv ys yw : Nat → Int32), u = (0, 0, xt, 0, xd, xy, xl, xu, xv, xc, xs, xw) ∧ v = (0, yf, yt, 0, yh, yb, yy, yr, yu, yv, ys, yw) ∧
    (∀ q, q < 4 → xd q = ot_K (fun i => b i == q)) ∧ (∀ i, i < 12 → yh i = nI (b i))
def ot_on (b : Nat → Nat) (u : SX) (v : SY) : Prop :=
  ∃ (q0 e : Nat) (t : Int32) (l : List Nat) (xg xp : Int32) (xd xy xl xu xv xc xs xw : Nat → Int32) (yf yn : Int32) (yh yb yy yr yu yv ys yw : Nat → Int32),
    u = (xg, 1, t, xp, xd, xy, xl, xu, xv, xc, xs, xw) ∧ v = (1, yf, t, yn, yh, yb, yy, yr, yu, yv, ys, yw) ∧ ot_E b q0 e ∧ ot_ok b q0 t l ∧ ot_X b q0 t l xg xp xd xy xl ∧ ot_Y b q0 t l yf yn yh yy yr ∧ (∀ i, i < 12 → yb i = nI (b i))
def i_Rel (_ : Nat) (u : SX) (v : SY) : Prop := ∃ b, ot_B b ∧ (ot_off b u v ∨ ot_on b u v)
theorem i_up {k : Nat} {u : SX} {v : SY} (h : i_Rel k u v) : i_Rel (k + 3) u v := h
/-- on or off: the deal as both sides keep it -/
theorem ot_view {k : Nat} {u : SX} {v : SY} (I : i_Rel k u v) : ∃ b, ot_B b ∧ ∃ (xg xo xt xp : Int32) (xd xy xl xu xv xc xs xw : Nat → Int32) (yo yf yt yn : Int32) (yh yb yy yr yu yv ys yw : Nat → Int32),
    u = (xg, xo, xt, xp, xd, xy, xl, xu, xv, xc, xs, xw) ∧ v = (yo, yf, yt, yn, yh, yb, yy, yr, yu, yv, ys, yw) ∧ (∀ q, q < 4 → xd q = ot_K (fun i => b i == q)) ∧ (∀ c, c < 12 → (if yo = 0 then yh c else yb c) = nI (b c)) := by
  obtain ⟨b, hB, h | h⟩ := I
  · obtain ⟨xt, xd, xy, xl, xu, xv, xc, xs, xw, yf, yt, yh, yb, yy, yr, yu, yv, ys, yw, rfl, rfl, h1, h2⟩ := h
    exact ⟨b, hB, _, _, _, _, _, _, _, _, _, _, _, _, _, _, _, _, _, _, _, _, _, _, _, _, rfl, rfl, h1, fun c hc => by rw [if_pos rfl]; exact h2 c hc⟩
  · obtain ⟨q0, e, t, l, xg, xp, xd, xy, xl, xu, xv, xc, xs, xw, yf, yn, yh, yb, yy, yr, yu, yv, ys, yw, rfl, rfl, E, hok, HX, HY, h2⟩ := h
    exact ⟨b, hB, _, _, _, _, _, _, _, _, _, _, _, _, _, _, _, _, _, _, _, _, _, _, _, _, rfl, rfl, HX.2.2.1, fun c hc => by rw [if_neg (by decide)]; exact h2 c hc⟩
theorem ot_dB {b : Nat → Nat} (hB : ot_B b) {c p : Nat} (hc : c < 12) (hp : p ≤ 4) (h : p < 4 → ot_c (fun i => b i == p && !(i == c)) 12 < 3) : ot_B (ot_d b c p) := by
  refine ⟨fun i hi => ?_, fun q hq => ?_⟩
  · have := hB.1 i hi
    unfold ot_d
    split <;> omega
  · by_cases hqp : q = p
    · have hpl : p < 4 := by omega
      have h1 := h hpl
      have h2 : ot_c (fun i => b i == p && !(i == c)) 12 + 1 = ot_c (fun i => ot_d b c p i == p) 12 := by
        apply ot_c_drop hc
        · intro i _ hne
          show (b i == p && !(i == c)) = ((if i = c then p else b i) == p)
          rw [if_neg hne]
          have e1 : (i == c) = false := by simpa using hne
          rw [e1]; simp
        · show ((if c = c then p else b c) == p) = true
          rw [if_pos rfl]; simp
        · simp
      rw [hqp]
      omega
    · refine Nat.le_trans (ot_c_mono (fun i _ hi => ?_)) (hB.2 q hq)
      have hi' : ((if i = c then p else b i) == q) = true := hi
      by_cases h : i = c
      · rw [if_pos h] at hi'
        simp at hi'
        omega
      · rw [if_neg h] at hi'
        exact hi'
theorem ot_le_of {x : Int32} {n : Nat} (hn : n + 1 < 2 ^ 31) (h : x < nI (n + 1)) : x ≤ nI n := by
  rw [Int32.lt_iff_toInt_lt, nI_toInt hn] at h
  rw [Int32.le_iff_toInt_le, nI_toInt (by omega)]
  omega
theorem ot_nle_of {x : Int32} {n : Nat} (hn : n + 1 < 2 ^ 31) (h : ¬ x < nI (n + 1)) : ¬ x ≤ nI n := by
  rw [Int32.lt_iff_toInt_lt, nI_toInt hn] at h
  rw [Int32.le_iff_toInt_le, nI_toInt (by omega)]
  omega
theorem ot_nge_of {x : Int32} {n : Nat} (hn : n + 1 < 2 ^ 31) (h : ¬ nI (n + 1) ≤ x) : ¬ nI n < x := by
  rw [Int32.le_iff_toInt_le, nI_toInt hn] at h
  rw [Int32.lt_iff_toInt_lt, nI_toInt (by omega)]
  omega
theorem i_vc0 : wpX_init (fun u => wpY_init (fun v => i_Rel 0 u v)) := by
  unfold wpX_init wpY_init
  refine oy_clear (fun yh' h => ?_)
  refine ⟨fun _ => 4, ⟨fun _ _ => Nat.le_refl _, fun p hp => ?_⟩, Or.inl ⟨_, _, _, _, _, _, _, _, _, _, _, _, _, _, _, _, _, _, _, rfl, rfl, fun q hq => ?_, fun i hi => ?_⟩⟩
  · rw [ot_c_0.mpr (fun c _ => by simp; omega)]; decide
  · exact ((ot_K_0 _).mpr (fun c _ => by simp; omega)).symm
  · exact h i hi
theorem i_vc_clear {k : Nat} {u : SX} {v : SY} (I : i_Rel k u v) (hk : k + 3 ≤ 1536) : wpX_clear (fun u' => wpY_clear (fun v' => i_Rel (k + 3) u' v') v) u := by
  obtain ⟨b, hB, xg, xo, xt, xp, xd, xy, xl, xu, xv, xc, xs, xw, yo, yf, yt, yn, yh, yb, yy, yr, yu, yv, ys, yw, rfl, rfl, hd, hF⟩ := ot_view I
  refine ox_clear (fun xd' hd' => ?_)
  refine oy_clear (fun yh' h => ?_)
  refine ⟨fun _ => 4, ⟨fun _ _ => Nat.le_refl _, fun p hp => ?_⟩, Or.inl ⟨_, _, _, _, _, _, _, _, _, _, _, _, _, _, _, _, _, _, _, rfl, rfl, fun q hq => ?_, fun i hi => ?_⟩⟩
  · rw [ot_c_0.mpr (fun c _ => by simp; omega)]; decide
  · rw [hd' q hq]; exact ((ot_K_0 _).mpr (fun c _ => by simp; omega)).symm
  · exact h i hi
theorem i_vc_deal {k : Nat} {u : SX} {v : SY} (I : i_Rel k u v) (hk : k + 3 ≤ 1536) (v1 : Int32) (v2 : Int32) : wpX_deal (fun r u' => wpY_deal (fun r' v' => r' = r ∧ i_Rel (k + 3) u' v') v v1 v2) u v1 v2 := by
  have I' : i_Rel (k + 3) u v := I
  obtain ⟨b, hB, xg, xo, xt, xp, xd, xy, xl, xu, xv, xc, xs, xw, yo, yf, yt, yn, yh, yb, yy, yr, yu, yv, ys, yw, rfl, rfl, hd, hF⟩ := ot_view I
  rcases pk_ix v1 (n := 12) (by decide) with h | h | ⟨c, hc, rfl⟩
  · exact br_t h (br_t h ⟨rfl, I'⟩)
  · have h0 : ¬ v1 < 0 := ot_nlt_ge (m := 0) (by decide) h (by decide)
    exact br_f h0 (br_t h (br_f h0 (br_t (ot_ge (n := 11) (by decide) h) ⟨rfl, I'⟩)))
  · have p1 : ¬ nI c < 0 := nI_pos (by omega)
    have p2 : ¬ 12 ≤ nI c := nI_ge (b := 12) hc (by decide)
    have p3 : ¬ 11 < nI c := nI_nlt (a := 11) (by omega) (by decide)
    rcases ot_p4 v2 with h | h | ⟨p, hp, rfl⟩ | h
    · exact br_f p1 (br_f p2 (br_t h (br_f p1 (br_f p3 (br_t h ⟨rfl, I'⟩)))))
    · subst h
      refine br_f p1 (br_f p2 (br_f (by decide) (br_t (by decide) (nm_r (ot_1 c hc) (br_t (by decide) ?_)))))
      refine ox_d51 hc hd (p := 4) (Or.inl ⟨rfl, rfl⟩) (fun xd' hd' => ?_)
      refine br_f p1 (br_f p3 (br_f (by decide) (br_t (by decide) ?_)))
      refine oy_d27 hB.1 hc hF (Q := fun _ => false) rfl (fun i hi _ => ⟨fun z => absurd z (ot_nI_ne_m1 _ (by have := hB.1 i hi; omega)), fun z => by cases z⟩) (fun z => ?_) (fun _ => ?_)
      · rw [ot_c_0.mpr (fun _ _ => rfl)] at z; omega
      · refine oy_d78 hB.1 hc hF (p := 4) (Or.inl ⟨rfl, rfl⟩) (fun yh' hh' => ?_)
        exact ⟨rfl, ot_d b c 4, ot_dB hB hc (Nat.le_refl _) (fun z => absurd z (by decide)), Or.inl ⟨_, _, _, _, _, _, _, _, _, _, _, _, _, _, _, _, _, _, _, rfl, rfl, hd', hh'⟩⟩
    · have q1 : ¬ nI p < -1 := ot_nI_m1 p (by omega)
      have q2 : nI p < 4 := nI_lt (b := 4) hp (by decide)
      have q3 : ¬ nI p < 0 := nI_pos (by omega)
      have q4 : nI p ≤ 3 := nI_le (b := 3) (by omega) (by decide)
      have ho : ot_c (fun i => b i == p && !(i == c)) 12 ≤ 3 := Nat.le_trans (ot_c_mono (fun i _ hi => by simp at hi; simp [hi.1])) (hB.2 p hp)
      have hQ : ∀ i, i < 12 → i ≠ c → (nI (b i) = nI p ↔ (b i == p && !(i == c)) = true) := by
        intro i hi hne
        have := hB.1 i hi
        rw [nI_eq (by omega) (by omega)]
        simp [hne]
      refine br_f p1 (br_f p2 (br_f q1 (br_t q2 (nm_r (ot_1 c hc) (br_f q3 (And.intro (vp_in_nI hp (by decide)) ?_))))))
      rw [nI_clamp (by omega), hd p hp, ot_K_andn]
      refine ox_size ?_
      by_cases h3 : ot_c (fun i => b i == p && !(i == c)) 12 < 3
      · refine br_t (nI_lt (b := 3) h3 (by decide)) ?_
        refine ox_d51 hc hd (p := p) (Or.inr ⟨rfl, hp⟩) (fun xd' hd' => ?_)
        refine br_f p1 (br_f p3 (br_f q1 (br_t q4 ?_)))
        refine oy_d27 hB.1 hc hF (Q := fun i => b i == p && !(i == c)) (by simp) hQ (fun z => by omega) (fun _ => ?_)
        refine oy_d78 hB.1 hc hF (p := p) (Or.inr ⟨rfl, hp⟩) (fun yh' hh' => ?_)
        exact ⟨rfl, ot_d b c p, ot_dB hB hc (by omega) (fun _ => h3), Or.inl ⟨_, _, _, _, _, _, _, _, _, _, _, _, _, _, _, _, _, _, _, rfl, rfl, hd', hh'⟩⟩
      · refine br_f (nI_nlt (b := 3) (by omega) (by omega)) ?_
        refine br_f p1 (br_f p3 (br_f q1 (br_t q4 ?_)))
        exact oy_d27 hB.1 hc hF (Q := fun i => b i == p && !(i == c)) (by simp) hQ (fun z => ⟨rfl, I'⟩) (fun z => by omega)
    · have q1 : ¬ v2 < -1 := ot_nlt_m1 (by decide) h
      have q2 : ¬ v2 < 4 := ot_nlt_ge (m := 4) (by decide) h (by decide)
      have q3 : ¬ v2 ≤ 3 := ot_nle_ge (m := 3) (by decide) h (by decide)
      exact br_f p1 (br_f p2 (br_f q1 (br_f q2 (br_f p1 (br_f p3 (br_f q1 (br_f q3 ⟨rfl, I'⟩)))))))
theorem i_vc_start {k : Nat} {u : SX} {v : SY} (I : i_Rel k u v) (hk : k + 3 ≤ 1536) (v1 : Int32) (v2 : Int32) : wpX_start (fun r u' => wpY_start (fun r' v' => r' = r ∧ i_Rel (k + 3) u' v') v v1 v2) u v1 v2 := by
  have I' : i_Rel (k + 3) u v := I
  obtain ⟨b, hB, xg, xo, xt, xp, xd, xy, xl, xu, xv, xc, xs, xw, yo, yf, yt, yn, yh, yb, yy, yr, yu, yv, ys, yw, rfl, rfl, hd, hF⟩ := ot_view I
  rcases pk_ix v1 (n := 4) (by decide) with h | h | ⟨q0, hq, rfl⟩
  · exact br_t h (br_t h ⟨rfl, I'⟩)
  · have h0 : ¬ v1 < 0 := ot_nlt_ge (m := 0) (by decide) h (by decide)
    exact br_f h0 (br_t h (br_f h0 (br_t (ot_ge (n := 3) (by decide) h) ⟨rfl, I'⟩)))
  · have p1 : ¬ nI q0 < 0 := nI_pos (by omega)
    have p2 : ¬ 4 ≤ nI q0 := nI_ge (b := 4) hq (by decide)
    have p3 : ¬ 3 < nI q0 := nI_nlt (a := 3) (by omega) (by decide)
    by_cases h1 : v2 < -1
    · exact br_f p1 (br_f p2 (br_t h1 (br_f p1 (br_f p3 (br_t h1 ⟨rfl, I'⟩)))))
    · by_cases h2 : v2 < 3
      · have h3 : v2 ≤ 2 := ot_le_of (n := 2) (by decide) h2
        refine br_f p1 (br_f p2 (br_f h1 (br_t h2 ?_)))
        refine ox_start (x1 := nI q0) (x2 := v2) (post := fun r u' => wpY_start (fun r' v' => r' = r ∧ i_Rel (k + 3) u' v') (yo, yf, yt, yn, yh, yb, yy, yr, yu, yv, ys, yw) (nI q0) v2) hd (fun hs => ?_) (fun hs => ?_)
        · refine br_f p1 (br_f p3 (br_f h1 (br_t h3 ?_)))
          exact oy_s26 hB.1 hB.2 hF (fun _ => ⟨rfl, I'⟩) (fun z => absurd z hs)
        · refine br_f p1 (br_f p3 (br_f h1 (br_t h3 ?_)))
          refine oy_s26 hB.1 hB.2 hF (fun z => absurd hs z) (fun _ yh' yb' g1 g2 => ?_)
          have hE : ot_E b q0 (ot_c (fun i => b i == 0) 12) := ⟨hB.1, hq, hs.2, hB.2 0 (by decide), hs.1⟩
          refine ⟨rfl, b, hB, Or.inr ⟨q0, _, v2, [], _, _, _, _, _, _, _, _, _, _, _, _, _, _, _, _, _, _, _, _, rfl, rfl, hE, True.intro, ⟨?_, rfl, hd, ?_, ?_⟩, ⟨rfl, rfl, g1, ?_, ?_⟩, g2⟩⟩
          · exact ((ot_K_0 _).mpr (fun c _ => by simp [ot_h])).symm
          · intro i hi; exact absurd hi (by simp)
          · intro i hi
            have : i = 0 := by
              have : i ≤ 0 / 4 := hi
              omega
            rw [this, pk_us]; rfl
          · intro i hi; exact absurd hi (by simp)
          · intro i hi; exact absurd hi (by simp)
      · exact br_f p1 (br_f p2 (br_f h1 (br_f h2 (br_f p1 (br_f p3 (br_f h1 (br_f (ot_nle_of (n := 2) (by decide) h2) ⟨rfl, I'⟩)))))))
end
section
/-! the calls in play -/
section
variable {b : Nat → Nat} {q0 : Nat} {t : Int32} {e : Nat} {l : List Nat} {yf yn : Int32} {yh yb yy yr yu yv ys yw : Nat → Int32}
theorem oy_after (E : ot_E b q0 e) {c : Nat} (hok : ot_ok b q0 t (c :: l)) (H : ot_Y b q0 t l yf yn yh yy yr) {post : Int32 → SY → Prop}
    (K : ∀ (yn' : Int32) (yh' yy' yr' yu' yv' ys' yw' : Nat → Int32), ot_Y b q0 t l yf yn' yh' yy' yr' → post (ot_rs 100 b q0 t 12 (c :: l)).1 (1, yf, t, yn', yh', yb, yy', yr', yu', yv', ys', yw')) :
    wpY_valueAfter post (1, yf, t, yn, yh, yb, yy, yr, yu, yv, ys, yw) (nI c) := by
  unfold wpY_valueAfter
  dsimp only
  refine oy_lay E hok H (fun yn1 yh1 yy1 yr1 H1 => ?_)
  refine oy_search E hok H1 (fun yh2 yy2 yr2 yu2 yv2 ys2 yw2 H2 e1 _ _ => ?_)
  refine oy_back E hok H2 (fun yh3 H3 _ => ?_)
  have := K _ yh3 yy2 yr2 yu2 yv2 ys2 yw2 H3
  rw [← e1] at this
  exact this
theorem oy_best (E : ot_E b q0 e) (hok : ot_ok b q0 t l) {x1 : Int32} {post : Int32 → SY → Prop}
    (Kn : (∀ c, c < 12 → ot_g b q0 t l c = true → (ot_rs 100 b q0 t 12 (c :: l)).1 ≠ x1) → ∀ (yn' : Int32) (yh' yy' yr' yu' yv' ys' yw' : Nat → Int32), ot_Y b q0 t l yf yn' yh' yy' yr' → post (-4) (1, yf, t, yn', yh', yb, yy', yr', yu', yv', ys', yw'))
    (Kc : ∀ c, c < 12 → ot_g b q0 t l c = true → (ot_rs 100 b q0 t 12 (c :: l)).1 = x1 → (∀ x, x < c → ot_g b q0 t l x = true → (ot_rs 100 b q0 t 12 (x :: l)).1 ≠ x1) →
      ∀ (yn' : Int32) (yh' yy' yr' yu' yv' ys' yw' : Nat → Int32), ot_Y b q0 t l yf yn' yh' yy' yr' → post (nI c) (1, yf, t, yn', yh', yb, yy', yr', yu', yv', ys', yw')) :
    ∀ d j, j + d = 12 → (∀ x, x < j → ot_g b q0 t l x = true → (ot_rs 100 b q0 t 12 (x :: l)).1 ≠ x1) → ∀ (yn : Int32) (yh yy yr yu yv ys yw : Nat → Int32), ot_Y b q0 t l yf yn yh yy yr →
      wY_best_23 post x1 (d + 1) (nI j) 1 yf t yn yh yb yy yr yu yv ys yw := by
  intro d
  induction d with
  | zero =>
    intro j hj h yn yh yy yr yu yv ys yw H
    exact br_t (nI_le (a := 12) (by omega) (by omega)) (Kn (fun c hc => h c (by omega)) _ _ _ _ _ _ _ _ H)
  | succ d ih =>
    intro j hj h yn yh yy yr yu yv ys yw H
    refine br_f (nI_ge (b := 12) (by omega) (by decide)) ?_
    refine oy_may E hok H (fun c hc hv hg => ?_) (fun h0 => ?_)
    · have hcj : j = c := (nI_eq (by omega) (by omega)).mp hv
      subst hcj
      refine br_f (by decide) ?_
      refine oy_after E ⟨hok, hc, hg⟩ H (fun yn' yh' yy' yr' yu' yv' ys' yw' H' => ?_)
      by_cases hx : (ot_rs 100 b q0 t 12 (j :: l)).1 = x1
      · exact br_t hx (Kc j hc hg hx h _ _ _ _ _ _ _ _ H')
      · refine br_f hx (nm_r (nI_1 _) (ih (j + 1) (by omega) (fun x hxj hgx => ?_) _ _ _ _ _ _ _ _ H'))
        by_cases hxe : x = j
        · rw [hxe]; exact hx
        · exact h x (by omega) hgx
    · refine br_t rfl (nm_r (nI_1 _) (ih (j + 1) (by omega) (fun x hxj hgx => ?_) _ _ _ _ _ _ _ _ H))
      by_cases hxe : x = j
      · rw [hxe, h0 j (by omega) rfl] at hgx; cases hgx
      · exact h x (by omega) hgx
end
theorem ot_ne10 : ¬ (1 : Int32) = 0 := by decide
theorem i_vc_hand {k : Nat} {u : SX} {v : SY} (I : i_Rel k u v) (hk : k + 3 ≤ 1536) (v1 : Int32) : wpX_hand (fun r => wpY_hand (fun r' => r' = r ∧ i_Rel (k + 3) u v) v v1) u v1 := by
  have I' : i_Rel (k + 3) u v := I
  obtain ⟨b, hB, h | h⟩ := I
  · obtain ⟨xt, xd, xy, xl, xu, xv, xc, xs, xw, yf, yt, yh, yb, yy, yr, yu, yv, ys, yw, rfl, rfl, h1, h2⟩ := h
    rcases pk_ix v1 (n := 4) (by decide) with h | h | ⟨p, hp, rfl⟩
    · exact br_t h (br_t h ⟨rfl, I'⟩)
    · have h0 : ¬ v1 < 0 := ot_nlt_ge (m := 0) (by decide) h (by decide)
      exact br_f h0 (br_f (ot_nlt_ge (m := 4) (by decide) h (by decide)) (br_f h0 (br_f (ot_nle_ge (m := 3) (by decide) h (by decide)) ⟨rfl, I'⟩)))
    · refine br_f (nI_pos (by omega)) (br_t (nI_lt (b := 4) hp (by decide)) ?_)
      have e1 : xd (nI p).toNatClampNeg &&& ((0 : Int32) ^^^ (-1)) = ot_K (fun i => b i == p) := by
        rw [nI_clamp (by omega), h1 p hp]
        have := ot_K_andn (fun i => b i == p) (fun _ => false)
        rw [ot_K_none] at this
        rw [this]
        exact ot_K_ext (fun c _ => by simp)
      refine And.intro (vp_in_nI hp (by decide)) ?_
      rw [e1]
      refine br_f (nI_pos (by omega)) (br_t (nI_le (b := 3) (by omega) (by decide)) ?_)
      exact oy_hand h2 hB.1 (by omega) ⟨rfl, I'⟩
  · obtain ⟨q0, e, t, l, xg, xp, xd, xy, xl, xu, xv, xc, xs, xw, yf, yn, yh, yb, yy, yr, yu, yv, ys, yw, rfl, rfl, E, hok, HX, HY, h2⟩ := h
    rcases pk_ix v1 (n := 4) (by decide) with h | h | ⟨p, hp, rfl⟩
    · exact br_t h (br_t h ⟨rfl, I'⟩)
    · have h0 : ¬ v1 < 0 := ot_nlt_ge (m := 0) (by decide) h (by decide)
      exact br_f h0 (br_f (ot_nlt_ge (m := 4) (by decide) h (by decide)) (br_f h0 (br_f (ot_nle_ge (m := 3) (by decide) h (by decide)) ⟨rfl, I'⟩)))
    · refine br_f (nI_pos (by omega)) (br_t (nI_lt (b := 4) hp (by decide)) ?_)
      refine ox_held HX hp ?_
      refine br_f (nI_pos (by omega)) (br_t (nI_le (b := 3) (by omega) (by decide)) ?_)
      exact oy_hand HY.2.2.1 (fun c hc => ot_h_le E.1 l hc) (by omega) ⟨rfl, I'⟩
theorem i_vc_toPlay {k : Nat} {u : SX} {v : SY} (I : i_Rel k u v) (hk : k + 3 ≤ 1536) : wpX_toPlay (fun r => wpY_toPlay (fun r' => r' = r ∧ i_Rel (k + 3) u v) v) u := by
  have I' : i_Rel (k + 3) u v := I
  obtain ⟨b, hB, h | h⟩ := I
  · obtain ⟨xt, xd, xy, xl, xu, xv, xc, xs, xw, yf, yt, yh, yb, yy, yr, yu, yv, ys, yw, rfl, rfl, h1, h2⟩ := h
    exact br_t rfl (br_t rfl ⟨rfl, I'⟩)
  · obtain ⟨q0, e, t, l, xg, xp, xd, xy, xl, xu, xv, xc, xs, xw, yf, yn, yh, yb, yy, yr, yu, yv, ys, yw, rfl, rfl, E, hok, HX, HY, h2⟩ := h
    refine br_f ot_ne10 ?_
    refine ox_legal E hok HX ?_
    by_cases h0 : ot_K (ot_g b q0 t l) = 0
    · refine br_t h0 (br_f ot_ne10 ?_)
      exact oy_turn E hok HY (fun _ => ⟨rfl, I'⟩) (fun z => absurd h0 z)
    · refine br_f h0 ?_
      refine ox_turn E hok HX ?_
      refine br_f ot_ne10 ?_
      exact oy_turn E hok HY (fun z => absurd z h0) (fun _ => ⟨rfl, I'⟩)
theorem i_vc_legal {k : Nat} {u : SX} {v : SY} (I : i_Rel k u v) (hk : k + 3 ≤ 1536) : wpX_legal (fun r => wpY_legal (fun r' => r' = r ∧ i_Rel (k + 3) u v) v) u := by
  have I' : i_Rel (k + 3) u v := I
  obtain ⟨b, hB, h | h⟩ := I
  · obtain ⟨xt, xd, xy, xl, xu, xv, xc, xs, xw, yf, yt, yh, yb, yy, yr, yu, yv, ys, yw, rfl, rfl, h1, h2⟩ := h
    exact br_t rfl (br_t rfl ⟨rfl, I'⟩)
  · obtain ⟨q0, e, t, l, xg, xp, xd, xy, xl, xu, xv, xc, xs, xw, yf, yn, yh, yb, yy, yr, yu, yv, ys, yw, rfl, rfl, E, hok, HX, HY, h2⟩ := h
    refine br_f ot_ne10 ?_
    refine ox_legal E hok HX ?_
    refine br_f ot_ne10 ?_
    exact oy_allowed E hok HY ⟨rfl, I'⟩
theorem i_vc_play {k : Nat} {u : SX} {v : SY} (I : i_Rel k u v) (hk : k + 3 ≤ 1536) (v1 : Int32) : wpX_play (fun r u' => wpY_play (fun r' v' => r' = r ∧ i_Rel (k + 3) u' v') v v1) u v1 := by
  have I' : i_Rel (k + 3) u v := I
  obtain ⟨b, hB, h | h⟩ := I
  · obtain ⟨xt, xd, xy, xl, xu, xv, xc, xs, xw, yf, yt, yh, yb, yy, yr, yu, yv, ys, yw, rfl, rfl, h1, h2⟩ := h
    exact br_t rfl (br_t rfl ⟨rfl, I'⟩)
  · obtain ⟨q0, e, t, l, xg, xp, xd, xy, xl, xu, xv, xc, xs, xw, yf, yn, yh, yb, yy, yr, yu, yv, ys, yw, rfl, rfl, E, hok, HX, HY, h2⟩ := h
    refine br_f ot_ne10 ?_
    refine ox_may E hok HX (fun c hc hv hg => ?_) (fun h0 => ?_)
    · subst hv
      refine br_f ot_ne10 ?_
      refine ox_put E ⟨hok, hc, hg⟩ HX (fun xg' xp' xy' xl' HX' => ?_)
      refine And.intro (by decide) (br_f ot_ne10 ?_)
      refine oy_may E hok HY (fun _ _ _ _ => ?_) (fun z => absurd (z c hc rfl) (by rw [hg]; decide))
      refine br_f ot_ne10 ?_
      refine oy_lay E ⟨hok, hc, hg⟩ HY (fun yn' yh' yy' yr' HY' => ?_)
      refine And.intro (by decide) (And.intro ?_ ?_)
      · rw [HX'.2.1, HY'.2.1]
      · exact ⟨b, hB, Or.inr ⟨q0, e, t, c :: l, _, _, _, _, _, _, _, _, _, _, _, _, _, _, _, _, _, _, _, _, rfl, rfl, E, ⟨hok, hc, hg⟩, HX', HY', h2⟩⟩
    · refine br_t rfl (br_f ot_ne10 ?_)
      refine oy_may E hok HY (fun c hc hv hg => absurd (h0 c hc hv) (by rw [hg]; decide)) (fun _ => ?_)
      exact br_t rfl ⟨rfl, I'⟩
theorem i_vc_undo {k : Nat} {u : SX} {v : SY} (I : i_Rel k u v) (hk : k + 3 ≤ 1536) : wpX_undo (fun r u' => wpY_undo (fun r' v' => r' = r ∧ i_Rel (k + 3) u' v') v) u := by
  have I' : i_Rel (k + 3) u v := I
  obtain ⟨b, hB, h | h⟩ := I
  · obtain ⟨xt, xd, xy, xl, xu, xv, xc, xs, xw, yf, yt, yh, yb, yy, yr, yu, yv, ys, yw, rfl, rfl, h1, h2⟩ := h
    exact br_t rfl (br_t rfl ⟨rfl, I'⟩)
  · obtain ⟨q0, e, t, l, xg, xp, xd, xy, xl, xu, xv, xc, xs, xw, yf, yn, yh, yb, yy, yr, yu, yv, ys, yw, rfl, rfl, E, hok, HX, HY, h2⟩ := h
    have hn := ot_E_len E hok
    refine br_f ot_ne10 ?_
    cases l with
    | nil =>
      exact br_t HX.2.1 (br_f ot_ne10 (br_t HY.2.1 ⟨rfl, I'⟩))
    | cons c l =>
      have hL : (c :: l).length = l.length + 1 := rfl
      rw [hL] at hn
      have hx : ¬ xp = 0 := by rw [HX.2.1]; exact nI_ne0 (by omega) (by omega)
      have hy : ¬ yn = 0 := by rw [HY.2.1]; exact nI_ne0 (by omega) (by omega)
      refine br_f hx ?_
      refine ox_back E hok HX (fun xg' HX' => ?_)
      refine br_f ot_ne10 (br_f hy ?_)
      refine oy_back E hok HY (fun yh' HY' ey => ?_)
      refine And.intro (vp_in_nI (by omega) (by decide)) (And.intro ?_ ?_)
      · rw [nI_clamp (by omega), ey]
      · exact ⟨b, hB, Or.inr ⟨q0, e, t, l, _, _, _, _, _, _, _, _, _, _, _, _, _, _, _, _, _, _, _, _, rfl, rfl, E, hok.1, HX', HY', h2⟩⟩
theorem i_vc_won {k : Nat} {u : SX} {v : SY} (I : i_Rel k u v) (hk : k + 3 ≤ 1536) (v1 : Int32) : wpX_won (fun r => wpY_won (fun r' => r' = r ∧ i_Rel (k + 3) u v) v v1) u v1 := by
  have I' : i_Rel (k + 3) u v := I
  obtain ⟨b, hB, h | h⟩ := I
  · obtain ⟨xt, xd, xy, xl, xu, xv, xc, xs, xw, yf, yt, yh, yb, yy, yr, yu, yv, ys, yw, rfl, rfl, h1, h2⟩ := h
    rcases pk_ix v1 (n := 2) (by decide) with h | h | ⟨p, hp, rfl⟩
    · exact br_t h (br_t h ⟨rfl, I'⟩)
    · have h0 : ¬ v1 < 0 := ot_nlt_ge (m := 0) (by decide) h (by decide)
      exact br_f h0 (br_f (ot_nlt_ge (m := 2) (by decide) h (by decide)) (br_f h0 (br_f (ot_nle_ge (m := 1) (by decide) h (by decide)) ⟨rfl, I'⟩)))
    · exact br_f (nI_pos (by omega)) (br_t (nI_lt (b := 2) hp (by decide)) (br_t rfl (br_f (nI_pos (by omega)) (br_t (nI_le (b := 1) (by omega) (by decide)) (br_t rfl ⟨rfl, I'⟩)))))
  · obtain ⟨q0, e, t, l, xg, xp, xd, xy, xl, xu, xv, xc, xs, xw, yf, yn, yh, yb, yy, yr, yu, yv, ys, yw, rfl, rfl, E, hok, HX, HY, h2⟩ := h
    rcases pk_ix v1 (n := 2) (by decide) with h | h | ⟨p, hp, rfl⟩
    · exact br_t h (br_t h ⟨rfl, I'⟩)
    · have h0 : ¬ v1 < 0 := ot_nlt_ge (m := 0) (by decide) h (by decide)
      exact br_f h0 (br_f (ot_nlt_ge (m := 2) (by decide) h (by decide)) (br_f h0 (br_f (ot_nle_ge (m := 1) (by decide) h (by decide)) ⟨rfl, I'⟩)))
    · refine br_f (nI_pos (by omega)) (br_t (nI_lt (b := 2) hp (by decide)) (br_f ot_ne10 ?_))
      refine ox_won E hok HX hp ?_
      refine br_f (nI_pos (by omega)) (br_t (nI_le (b := 1) (by omega) (by decide)) (br_f ot_ne10 ?_))
      exact oy_won E hok HY hp ⟨rfl, I'⟩
theorem i_vc_winning {k : Nat} {u : SX} {v : SY} (I : i_Rel k u v) (hk : k + 3 ≤ 1536) : wpX_winning (fun r => wpY_winning (fun r' => r' = r ∧ i_Rel (k + 3) u v) v) u := by
  have I' : i_Rel (k + 3) u v := I
  obtain ⟨b, hB, h | h⟩ := I
  · obtain ⟨xt, xd, xy, xl, xu, xv, xc, xs, xw, yf, yt, yh, yb, yy, yr, yu, yv, ys, yw, rfl, rfl, h1, h2⟩ := h
    exact br_t rfl (br_t rfl ⟨rfl, I'⟩)
  · obtain ⟨q0, e, t, l, xg, xp, xd, xy, xl, xu, xv, xc, xs, xw, yf, yn, yh, yb, yy, yr, yu, yv, ys, yw, rfl, rfl, E, hok, HX, HY, h2⟩ := h
    have hn := ot_E_len E hok
    obtain ⟨x1, x2, x3, x4, x5⟩ := id HX
    obtain ⟨y1, y2, y3, y4, y5⟩ := id HY
    subst x2 y2
    have e2 : nI l.length - nI l.length / 4 * 4 = nI (l.length % 4) := pk_rem (d := 4) (by omega) (by decide) (by decide)
    have e3 : nI l.length / 4 = nI (l.length / 4) := pk_div (d := 4) (by omega) (by decide) (by decide)
    refine br_f ot_ne10 (And.intro (by decide) ?_)
    by_cases hm : l.length % 4 = 0
    · have hz : nI l.length - nI l.length / 4 * 4 = 0 := by rw [e2, hm]; rfl
      exact br_t hz (br_f ot_ne10 (And.intro (by decide) (br_t hz ⟨rfl, I'⟩)))
    · have hz : ¬ nI l.length - nI l.length / 4 * 4 = 0 := by rw [e2]; exact nI_ne0 (by omega) (by omega)
      refine br_f hz (And.intro (by decide) ?_)
      rw [e3]
      refine ox_top (f := ot_p l) (L := ot_l q0 t l (l.length / 4)) hn (by omega) x4 (fun i _ => ot_p_lt hok i) (x5 _ (Nat.le_refl _)) (ot_l_lt E.2.1 t l _) ?_
      refine br_f ot_ne10 (And.intro (by decide) (br_f hz (And.intro (by decide) ?_)))
      have e4 : nI l.length - (nI l.length - nI l.length / 4 * 4) = nI (4 * (l.length / 4)) := by
        rw [e2, pk_sub (by omega)]; exact congrArg nI (by omega)
      rw [e4]
      refine oy_win (f := ot_p l) hn (by omega) y4 (fun i _ => ot_p_lt hok i) ?_
      have hin := ot_tp_in t (ot_p l) (4 * (l.length / 4)) (min 3 (l.length - 4 * (l.length / 4) - 1))
      generalize ot_tp t (ot_p l) (4 * (l.length / 4)) (min 3 (l.length - 4 * (l.length / 4) - 1)) = z at hin ⊢
      have hz1 : z / 4 = l.length / 4 := by omega
      have hz2 : z % 4 = z - 4 * (l.length / 4) := by omega
      refine And.intro (vp_in_nI (by omega) (by decide)) (And.intro ?_ I')
      rw [nI_clamp (by omega), y5 z (by omega), hz1, hz2]
theorem i_vc_value {k : Nat} {u : SX} {v : SY} (I : i_Rel k u v) (hk : k + 3 ≤ 1536) : wpX_value (fun r u' => wpY_value (fun r' v' => r' = r ∧ i_Rel (k + 3) u' v') v) u := by
  have I' : i_Rel (k + 3) u v := I
  obtain ⟨b, hB, h | h⟩ := I
  · obtain ⟨xt, xd, xy, xl, xu, xv, xc, xs, xw, yf, yt, yh, yb, yy, yr, yu, yv, ys, yw, rfl, rfl, h1, h2⟩ := h
    exact br_t rfl (br_t rfl ⟨rfl, I'⟩)
  · obtain ⟨q0, e, t, l, xg, xp, xd, xy, xl, xu, xv, xc, xs, xw, yf, yn, yh, yb, yy, yr, yu, yv, ys, yw, rfl, rfl, E, hok, HX, HY, h2⟩ := h
    have hn := ot_E_len E hok
    have ag := ot_ag_rs E.2.1 E.2.2.1 E.2.2.2.1 12 l hok (by omega)
    refine br_f ot_ne10 ?_
    refine ox_explore E hok HX (fun xg' xy' xl' xu' xv' xc' xs' xw' HX' w1 w2 w3 w4 => ?_)
    refine And.intro (vp_in_nI (by omega) (by decide)) (br_f ot_ne10 ?_)
    refine oy_search E hok HY (fun yh' yy' yr' yu' yv' ys' yw' HY' z1 z2 z3 => ?_)
    refine And.intro ?_ ⟨b, hB, Or.inr ⟨q0, e, t, l, _, _, _, _, _, _, _, _, _, _, _, _, _, _, _, _, _, _, _, _, rfl, rfl, E, hok, HX', HY', h2⟩⟩
    rw [nI_clamp (by omega), w1, z1, ag.1]
theorem i_vc_least {k : Nat} {u : SX} {v : SY} (I : i_Rel k u v) (hk : k + 3 ≤ 1536) : wpX_least (fun r u' => wpY_least (fun r' v' => r' = r ∧ i_Rel (k + 3) u' v') v) u := by
  have I' : i_Rel (k + 3) u v := I
  obtain ⟨b, hB, h | h⟩ := I
  · obtain ⟨xt, xd, xy, xl, xu, xv, xc, xs, xw, yf, yt, yh, yb, yy, yr, yu, yv, ys, yw, rfl, rfl, h1, h2⟩ := h
    exact br_t rfl (br_t rfl ⟨rfl, I'⟩)
  · obtain ⟨q0, e, t, l, xg, xp, xd, xy, xl, xu, xv, xc, xs, xw, yf, yn, yh, yb, yy, yr, yu, yv, ys, yw, rfl, rfl, E, hok, HX, HY, h2⟩ := h
    have hn := ot_E_len E hok
    have ag := ot_ag_rs E.2.1 E.2.2.1 E.2.2.2.1 12 l hok (by omega)
    refine br_f ot_ne10 ?_
    refine ox_explore E hok HX (fun xg' xy' xl' xu' xv' xc' xs' xw' HX' w1 w2 w3 w4 => ?_)
    refine And.intro (vp_in_nI (by omega) (by decide)) (br_f ot_ne10 ?_)
    refine oy_search E hok HY (fun yh' yy' yr' yu' yv' ys' yw' HY' z1 z2 z3 => ?_)
    refine And.intro ?_ ⟨b, hB, Or.inr ⟨q0, e, t, l, _, _, _, _, _, _, _, _, _, _, _, _, _, _, _, _, _, _, _, _, rfl, rfl, E, hok, HX', HY', h2⟩⟩
    rw [nI_clamp (by omega), w3, z2, ag.2.1]
theorem i_vc_courses {k : Nat} {u : SX} {v : SY} (I : i_Rel k u v) (hk : k + 3 ≤ 1536) : wpX_courses (fun r u' => wpY_courses (fun r' v' => r' = r ∧ i_Rel (k + 3) u' v') v) u := by
  have I' : i_Rel (k + 3) u v := I
  obtain ⟨b, hB, h | h⟩ := I
  · obtain ⟨xt, xd, xy, xl, xu, xv, xc, xs, xw, yf, yt, yh, yb, yy, yr, yu, yv, ys, yw, rfl, rfl, h1, h2⟩ := h
    exact br_t rfl (br_t rfl ⟨rfl, I'⟩)
  · obtain ⟨q0, e, t, l, xg, xp, xd, xy, xl, xu, xv, xc, xs, xw, yf, yn, yh, yb, yy, yr, yu, yv, ys, yw, rfl, rfl, E, hok, HX, HY, h2⟩ := h
    have hn := ot_E_len E hok
    have ag := ot_ag_rs E.2.1 E.2.2.1 E.2.2.2.1 12 l hok (by omega)
    refine br_f ot_ne10 ?_
    refine ox_explore E hok HX (fun xg' xy' xl' xu' xv' xc' xs' xw' HX' w1 w2 w3 w4 => ?_)
    refine And.intro (vp_in_nI (by omega) (by decide)) (br_f ot_ne10 ?_)
    refine oy_search E hok HY (fun yh' yy' yr' yu' yv' ys' yw' HY' z1 z2 z3 => ?_)
    refine And.intro ?_ ⟨b, hB, Or.inr ⟨q0, e, t, l, _, _, _, _, _, _, _, _, _, _, _, _, _, _, _, _, _, _, _, _, rfl, rfl, E, hok, HX', HY', h2⟩⟩
    rw [nI_clamp (by omega), w4, z3, ag.2.2.1]
theorem i_vc_after {k : Nat} {u : SX} {v : SY} (I : i_Rel k u v) (hk : k + 3 ≤ 1536) (v1 : Int32) : wpX_after (fun r u' => wpY_after (fun r' v' => r' = r ∧ i_Rel (k + 3) u' v') v v1) u v1 := by
  have I' : i_Rel (k + 3) u v := I
  obtain ⟨b, hB, h | h⟩ := I
  · obtain ⟨xt, xd, xy, xl, xu, xv, xc, xs, xw, yf, yt, yh, yb, yy, yr, yu, yv, ys, yw, rfl, rfl, h1, h2⟩ := h
    exact br_t rfl (br_t rfl ⟨rfl, I'⟩)
  · obtain ⟨q0, e, t, l, xg, xp, xd, xy, xl, xu, xv, xc, xs, xw, yf, yn, yh, yb, yy, yr, yu, yv, ys, yw, rfl, rfl, E, hok, HX, HY, h2⟩ := h
    refine br_f ot_ne10 ?_
    refine ox_may E hok HX (fun c hc hv hg => ?_) (fun h0 => ?_)
    · subst hv
      have hok' : ot_ok b q0 t (c :: l) := ⟨hok, hc, hg⟩
      have hn : l.length + 1 ≤ 12 := ot_E_len E hok'
      have ag := ot_ag_rs E.2.1 E.2.2.1 E.2.2.2.1 12 (c :: l) hok' (by omega)
      refine br_f ot_ne10 ?_
      refine ox_put E hok' HX (fun xg1 xp1 xy1 xl1 HX1 => ?_)
      refine ox_explore E hok' HX1 (fun xg' xy' xl' xu' xv' xc' xs' xw' HX' w1 w2 w3 w4 => ?_)
      have ew : xv' (nI (c :: l).length).toNatClampNeg = (ot_rs 4 b q0 t 12 (c :: l)).1 := by
        rw [nI_clamp (by rw [List.length_cons]; omega), w1]
      refine And.intro (vp_in_nI (by rw [List.length_cons]; omega) (by decide)) (nm_r ew ?_)
      refine ox_back E hok' HX' (fun xg2 HX2 => ?_)
      refine br_f ot_ne10 ?_
      refine oy_may E hok HY (fun _ _ _ _ => ?_) (fun z => absurd (z c hc rfl) (by rw [hg]; decide))
      refine br_f ot_ne10 ?_
      refine oy_after E hok' HY (fun yn' yh' yy' yr' yu' yv' ys' yw' HY' => ?_)
      exact ⟨ag.1.symm, b, hB, Or.inr ⟨q0, e, t, l, _, _, _, _, _, _, _, _, _, _, _, _, _, _, _, _, _, _, _, _, rfl, rfl, E, hok, HX2, HY', h2⟩⟩
    · refine br_t rfl (br_f ot_ne10 ?_)
      refine oy_may E hok HY (fun c hc hv hg => absurd (h0 c hc hv) (by rw [hg]; decide)) (fun _ => ?_)
      exact br_t rfl ⟨rfl, I'⟩
theorem i_vc_best {k : Nat} {u : SX} {v : SY} (I : i_Rel k u v) (hk : k + 3 ≤ 1536) : wpX_best (fun r u' => wpY_best (fun r' v' => r' = r ∧ i_Rel (k + 3) u' v') v) u := by
  have I' : i_Rel (k + 3) u v := I
  obtain ⟨b, hB, h | h⟩ := I
  · obtain ⟨xt, xd, xy, xl, xu, xv, xc, xs, xw, yf, yt, yh, yb, yy, yr, yu, yv, ys, yw, rfl, rfl, h1, h2⟩ := h
    exact br_t rfl (br_t rfl ⟨rfl, I'⟩)
  · obtain ⟨q0, e, t, l, xg, xp, xd, xy, xl, xu, xv, xc, xs, xw, yf, yn, yh, yb, yy, yr, yu, yv, ys, yw, rfl, rfl, E, hok, HX, HY, h2⟩ := h
    have hn := ot_E_len E hok
    have ag := ot_ag_rs E.2.1 E.2.2.1 E.2.2.2.1 12 l hok (by omega)
    have agc : ∀ c, c < 12 → ot_g b q0 t l c = true → (ot_rs 4 b q0 t 12 (c :: l)).1 = (ot_rs 100 b q0 t 12 (c :: l)).1 :=
      fun c hc hg => (ot_ag_rs E.2.1 E.2.2.1 E.2.2.2.1 12 (c :: l) ⟨hok, hc, hg⟩ (by omega)).1
    refine br_f ot_ne10 ?_
    refine ox_explore E hok HX (fun xg' xy' xl' xu' xv' xc' xs' xw' HX' w1 w2 w3 w4 => ?_)
    have ew : xc' (nI l.length).toNatClampNeg = (ot_rs 4 b q0 t 12 l).2.1 := by rw [nI_clamp (by omega), w2]
    refine And.intro (vp_in_nI (by omega) (by decide)) ?_
    rw [ew]
    refine br_f ot_ne10 ?_
    refine oy_search E hok HY (fun yh' yy' yr' yu' yv' ys' yw' HY' z1 z2 z3 => ?_)
    refine nm_r z1 ⟨13, ?_⟩
    have rel : ∀ (yn2 : Int32) (yh2 yy2 yr2 yu2 yv2 ys2 yw2 : Nat → Int32), ot_Y b q0 t l yf yn2 yh2 yy2 yr2 → i_Rel (k + 3) (xg', 1, t, nI l.length, xd, xy', xl', xu', xv', xc', xs', xw') (1, yf, t, yn2, yh2, yb, yy2, yr2, yu2, yv2, ys2, yw2) :=
      fun _ _ _ _ _ _ _ _ H => ⟨b, hB, Or.inr ⟨q0, e, t, l, _, _, _, _, _, _, _, _, _, _, _, _, _, _, _, _, _, _, _, _, rfl, rfl, E, hok, HX', H, h2⟩⟩
    refine oy_best E hok (fun hno yn2 yh2 yy2 yr2 yu2 yv2 ys2 yw2 H2 => ⟨?_, rel _ _ _ _ _ _ _ _ H2⟩) (fun c hc hg hx hlt yn2 yh2 yy2 yr2 yu2 yv2 ys2 yw2 H2 => ⟨?_, rel _ _ _ _ _ _ _ _ H2⟩) 12 0 (by omega) (fun x hx => by omega) _ _ _ _ _ _ _ _ HY'
    · rcases ot_best E.2.1 E.2.2.1 E.2.2.2.1 hok with ⟨_, hb⟩ | ⟨c, hc, hg, hb, hv, _⟩
      · exact hb.symm
      · exact absurd (by rw [← agc c hc hg, hv, ag.1]) (hno c hc hg)
    · rcases ot_best E.2.1 E.2.2.1 E.2.2.2.1 hok with ⟨h0, hb⟩ | ⟨c', hc', hg', hb, hv, hmin⟩
      · have := (ot_K_0 _).mp h0 c hc
        rw [hg] at this
        cases this
      · rw [hb]
        have hcc : c = c' := by
          rcases Nat.lt_trichotomy c c' with h | h | h
          · exact absurd (by rw [agc c hc hg, hx, ag.1]) (hmin c h hg)
          · exact h
          · exact absurd (by rw [← agc c' hc' hg', hv, ag.1]) (hlt c' h hg')
        rw [hcc]
end
