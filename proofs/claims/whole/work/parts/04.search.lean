/-! results of a situation: (value, choice, least, ways); M: what a search begins with for 'more than any result' -/
abbrev ot_A : Type := Int32 × Int32 × Int32 × Int32
def ot_be (T : Nat) (x y : Int32) : Bool := if T % 2 = 0 then decide (y < x) else decide (x < y)
def ot_st (T : Nat) (a r : ot_A) (c : Nat) : ot_A :=
  (if ot_be T r.1 a.1 = true then r.1 else a.1, if ot_be T r.1 a.1 = true then nI c else a.2.1, if r.2.2.1 < a.2.2.1 then r.2.2.1 else a.2.2.1, a.2.2.2 + r.2.2.2)
def ot_in (M : Int32) (T : Nat) : ot_A := (if T % 2 = 0 then -1 else M, -4, M, 0)
def ot_en (M : Int32) (b : Nat → Nat) (q0 : Nat) (t : Int32) (l : List Nat) : ot_A :=
  if ot_K (ot_g b q0 t l) = 0 then (nI (ot_w q0 t l 0 (l.length / 4)), -4, nI (ot_w q0 t l 0 (l.length / 4)), 1) else ot_in M (ot_t q0 t l)
def ot_rs (M : Int32) (b : Nat → Nat) (q0 : Nat) (t : Int32) : Nat → List Nat → ot_A
  | 0, l => ot_en M b q0 t l
  | D + 1, l => (ot_bl (ot_g b q0 t l)).foldl (fun a c => ot_st (ot_t q0 t l) a (ot_rs M b q0 t D (c :: l)) c) (ot_en M b q0 t l)
def ot_co (b : Nat → Nat) (q0 : Nat) (t : Int32) : Nat → List Nat → Nat
  | 0, _ => 0
  | D + 1, l => ((ot_bl (ot_g b q0 t l)).map (fun c => ot_co b q0 t D (c :: l) + 2)).sum
theorem ot_fold_ext {α β : Type} {f g : α → β → α} : ∀ (cs : List β) (a : α), (∀ c, c ∈ cs → ∀ a, f a c = g a c) → cs.foldl f a = cs.foldl g a := by
  intro cs
  induction cs with
  | nil => intro a _; rfl
  | cons c cs ih =>
    intro a h
    rw [List.foldl_cons, List.foldl_cons, h c (List.mem_cons_self ..) a]
    exact ih _ (fun x hx => h x (List.mem_cons_of_mem _ hx))
theorem ot_sum_le {f : Nat → Nat} {B : Nat} : ∀ cs : List Nat, (∀ c, c ∈ cs → f c ≤ B) → (cs.map f).sum ≤ cs.length * B := by
  intro cs
  induction cs with
  | nil => intro _; simp
  | cons c cs ih =>
    intro h
    have h1 := h c (List.mem_cons_self ..)
    have h2 := ih (fun x hx => h x (List.mem_cons_of_mem _ hx))
    rw [List.map_cons, List.sum_cons, List.length_cons, Nat.add_mul]
    omega
section
variable {b : Nat → Nat} {q0 : Nat} {t : Int32} {e : Nat}
theorem ot_full (hq : q0 < 4) (he : ∀ p, p < 4 → ot_c (fun c => b c == p) 12 = e) (he3 : e ≤ 3) {l : List Nat} (hok : ot_ok b q0 t l) (h : 12 ≤ l.length) : ot_K (ot_g b q0 t l) = 0 := by
  have h1 := ot_cnt_t hq he l hok
  rw [ot_g_0]
  omega
theorem ot_full_bl (hq : q0 < 4) (he : ∀ p, p < 4 → ot_c (fun c => b c == p) 12 = e) (he3 : e ≤ 3) {l : List Nat} (hok : ot_ok b q0 t l) (h : 12 ≤ l.length) : ot_bl (ot_g b q0 t l) = [] :=
  ot_bl_nil.mpr ((ot_K_0 _).mp (ot_full hq he he3 hok h))
theorem ot_ok_bl {l : List Nat} (hok : ot_ok b q0 t l) {c : Nat} (h : c ∈ ot_bl (ot_g b q0 t l)) : ot_ok b q0 t (c :: l) :=
  ⟨hok, (ot_bl_mem.mp h).1, (ot_bl_mem.mp h).2⟩
/-- the depth doesn't matter once it is great enough -/
theorem ot_rs_up (hq : q0 < 4) (he : ∀ p, p < 4 → ot_c (fun c => b c == p) 12 = e) (he3 : e ≤ 3) (M : Int32) : ∀ (D : Nat) (l : List Nat), ot_ok b q0 t l → 12 ≤ l.length + D → ot_rs M b q0 t (D + 1) l = ot_rs M b q0 t D l := by
  intro D
  induction D with
  | zero =>
    intro l hok h
    conv => lhs; rw [ot_rs]
    rw [ot_full_bl hq he he3 hok (by omega)]
    rfl
  | succ D ih =>
    intro l hok h
    rw [ot_rs]
    conv => rhs; rw [ot_rs]
    apply ot_fold_ext
    intro c hc a
    rw [ih (c :: l) (ot_ok_bl hok hc) (by simp only [List.length_cons]; omega)]
/-- how many steps a search takes -/
def ot_T : Nat → Nat
  | 0 => 0
  | D + 1 => (3 - (11 - D) / 4) * (ot_T D + 2)
theorem ot_co_le (hq : q0 < 4) (he : ∀ p, p < 4 → ot_c (fun c => b c == p) 12 = e) (he3 : e ≤ 3) : ∀ (D : Nat) (l : List Nat), ot_ok b q0 t l → l.length ≤ 12 → ot_co b q0 t D l ≤ ot_T (12 - l.length) := by
  intro D
  induction D with
  | zero => intro l _ _; exact Nat.zero_le _
  | succ D ih =>
    intro l hok h
    rw [ot_co]
    by_cases h12 : l.length = 12
    · rw [ot_full_bl hq he he3 hok (by omega)]
      exact Nat.zero_le _
    · obtain ⟨m, hm⟩ : ∃ m, 12 - l.length = m + 1 := ⟨11 - l.length, by omega⟩
      rw [hm, ot_T]
      have h1 : ((ot_bl (ot_g b q0 t l)).map (fun c => ot_co b q0 t D (c :: l) + 2)).sum ≤ (ot_bl (ot_g b q0 t l)).length * (ot_T m + 2) := by
        apply ot_sum_le
        intro c hc
        have h3 := ih (c :: l) (ot_ok_bl hok hc) (by simp only [List.length_cons]; omega)
        have h4 : 12 - (c :: l).length = m := by simp only [List.length_cons]; omega
        rw [h4] at h3
        omega
      have h2 : (ot_bl (ot_g b q0 t l)).length ≤ 3 - (11 - m) / 4 := by
        have h5 := ot_cnt_t hq he l hok
        have h6 := ot_g_le (b := b) (q0 := q0) (t := t) (l := l)
        rw [ot_bl_len]
        omega
      exact Nat.le_trans h1 (Nat.mul_le_mul_right _ h2)
theorem ot_T_12 : ∀ D, D ≤ 12 → ot_T D ≤ 15468 := by decide
/-- two results that agree, whatever the search began with -/
def ot_ag (x y : ot_A) : Prop := x.1 = y.1 ∧ x.2.2.1 = y.2.2.1 ∧ x.2.2.2 = y.2.2.2 ∧ (∃ j, j < 4 ∧ x.1 = nI j) ∧ (∃ j, j < 4 ∧ x.2.2.1 = nI j)
theorem ot_ag_st (T : Nat) {a a' r r' : ot_A} (c : Nat) (ha : ot_ag a a') (hr : ot_ag r r') : ot_ag (ot_st T a r c) (ot_st T a' r' c) := by
  obtain ⟨a1, a2, a3, a4, a5⟩ := ha
  obtain ⟨r1, r2, r3, r4, r5⟩ := hr
  unfold ot_st
  refine ⟨?_, ?_, ?_, ?_, ?_⟩
  · show (if ot_be T r.1 a.1 = true then r.1 else a.1) = (if ot_be T r'.1 a'.1 = true then r'.1 else a'.1)
    rw [a1, r1]
  · show (if r.2.2.1 < a.2.2.1 then r.2.2.1 else a.2.2.1) = (if r'.2.2.1 < a'.2.2.1 then r'.2.2.1 else a'.2.2.1)
    rw [a2, r2]
  · show a.2.2.2 + r.2.2.2 = a'.2.2.2 + r'.2.2.2
    rw [a3, r3]
  · show ∃ j, j < 4 ∧ (if ot_be T r.1 a.1 = true then r.1 else a.1) = nI j
    split
    · exact r4
    · exact a4
  · show ∃ j, j < 4 ∧ (if r.2.2.1 < a.2.2.1 then r.2.2.1 else a.2.2.1) = nI j
    split
    · exact r5
    · exact a5
theorem ot_lt4 : ∀ j, j < 4 → (-1 : Int32) < nI j ∧ nI j < 4 ∧ nI j < 100 := by decide
theorem ot_be_in {M : Int32} (T : Nat) {x : Int32} (h1 : (-1 : Int32) < x) (h2 : x < M) : ot_be T x (ot_in M T).1 = true := by
  show (if T % 2 = 0 then decide ((if T % 2 = 0 then -1 else M) < x) else decide (x < (if T % 2 = 0 then -1 else M))) = true
  by_cases h : T % 2 = 0
  · rw [if_pos h, if_pos h]; exact decide_eq_true h1
  · rw [if_neg h, if_neg h]; exact decide_eq_true h2
theorem ot_st_in {M : Int32} (T : Nat) {r : ot_A} (c : Nat) (h1 : (-1 : Int32) < r.1) (h2 : r.1 < M) (h3 : r.2.2.1 < M) : ot_st T (ot_in M T) r c = (r.1, nI c, r.2.2.1, 0 + r.2.2.2) := by
  unfold ot_st
  rw [if_pos (ot_be_in T h1 h2), if_pos (ot_be_in T h1 h2)]
  show (_, _, (if r.2.2.1 < M then r.2.2.1 else M), _) = _
  rw [if_pos h3]
  rfl
theorem ot_ag_in (T : Nat) {r r' : ot_A} (c : Nat) (hr : ot_ag r r') : ot_ag (ot_st T (ot_in 4 T) r c) (ot_st T (ot_in 100 T) r' c) := by
  obtain ⟨r1, r2, r3, ⟨j, hj, ej⟩, ⟨i, hi, ei⟩⟩ := hr
  have hj' := ot_lt4 j hj
  have hi' := ot_lt4 i hi
  rw [ot_st_in T c (by rw [ej]; exact hj'.1) (by rw [ej]; exact hj'.2.1) (by rw [ei]; exact hi'.2.1),
    ot_st_in T c (by rw [← r1, ej]; exact hj'.1) (by rw [← r1, ej]; exact hj'.2.2) (by rw [← r2, ei]; exact hi'.2.2)]
  refine ⟨r1, r2, ?_, ⟨j, hj, ej⟩, ⟨i, hi, ei⟩⟩
  show 0 + r.2.2.2 = 0 + r'.2.2.2
  rw [r3]
theorem ot_ag_fold (T : Nat) (f f' : Nat → ot_A) : ∀ (cs : List Nat) (a a' : ot_A), (∀ c, c ∈ cs → ot_ag (f c) (f' c)) → ot_ag a a' →
    ot_ag (cs.foldl (fun a c => ot_st T a (f c) c) a) (cs.foldl (fun a c => ot_st T a (f' c) c) a') := by
  intro cs
  induction cs with
  | nil => intro a a' _ h; exact h
  | cons c cs ih =>
    intro a a' h ha
    rw [List.foldl_cons, List.foldl_cons]
    exact ih _ _ (fun x hx => h x (List.mem_cons_of_mem _ hx)) (ot_ag_st T c ha (h c (List.mem_cons_self ..)))
theorem ot_ag_end (hq : q0 < 4) (he : ∀ p, p < 4 → ot_c (fun c => b c == p) 12 = e) (he3 : e ≤ 3) {l : List Nat} (hok : ot_ok b q0 t l) (h : ot_K (ot_g b q0 t l) = 0) : ot_ag (ot_en 4 b q0 t l) (ot_en 100 b q0 t l) := by
  have hl := ot_len hq he l hok
  have hw := ot_w_le q0 t l 0 (l.length / 4)
  unfold ot_en
  rw [if_pos h, if_pos h]
  exact ⟨rfl, rfl, rfl, ⟨_, by omega, rfl⟩, ⟨_, by omega, rfl⟩⟩
theorem ot_ag_rs (hq : q0 < 4) (he : ∀ p, p < 4 → ot_c (fun c => b c == p) 12 = e) (he3 : e ≤ 3) : ∀ (D : Nat) (l : List Nat), ot_ok b q0 t l → 12 ≤ l.length + D → ot_ag (ot_rs 4 b q0 t D l) (ot_rs 100 b q0 t D l) := by
  intro D
  induction D with
  | zero =>
    intro l hok h
    exact ot_ag_end hq he he3 hok (ot_full hq he he3 hok (by omega))
  | succ D ih =>
    intro l hok h
    rw [ot_rs, ot_rs]
    have hc : ∀ c, c ∈ ot_bl (ot_g b q0 t l) → ot_ag (ot_rs 4 b q0 t D (c :: l)) (ot_rs 100 b q0 t D (c :: l)) :=
      fun c hc => ih (c :: l) (ot_ok_bl hok hc) (by simp only [List.length_cons]; omega)
    cases hb : ot_bl (ot_g b q0 t l) with
    | nil => exact ot_ag_end hq he he3 hok ((ot_K_0 _).mpr (ot_bl_nil.mp hb))
    | cons c cs =>
      rw [hb] at hc
      have hn : ¬ ot_K (ot_g b q0 t l) = 0 := by
        intro z
        rw [ot_bl_nil.mpr ((ot_K_0 _).mp z)] at hb
        cases hb
      rw [List.foldl_cons, List.foldl_cons]
      apply ot_ag_fold (ot_t q0 t l) (fun c => ot_rs 4 b q0 t D (c :: l)) (fun c => ot_rs 100 b q0 t D (c :: l)) cs
      · exact fun x hx => hc x (List.mem_cons_of_mem _ hx)
      · have := ot_ag_in (ot_t q0 t l) c (hc c (List.mem_cons_self ..))
        unfold ot_en
        rw [if_neg hn, if_neg hn]
        exact this
/-! the choice is the least card of the best value -/
def ot_bs (T : Nat) (f : Nat → ot_A) (S : Nat → Prop) (a : ot_A) : Prop :=
  ∃ c, S c ∧ a.2.1 = nI c ∧ a.1 = (f c).1 ∧ (∀ x, S x → ot_be T (f x).1 a.1 = false) ∧ ∀ x, S x → x < c → ot_be T a.1 (f x).1 = true
theorem ot_be_tr {T : Nat} {x y z : Int32} (h1 : ot_be T z y = false) (h2 : ot_be T x y = true) : ot_be T x z = true := by
  unfold ot_be at *
  by_cases h : T % 2 = 0
  · rw [if_pos h] at *
    rw [decide_eq_false_iff_not] at h1
    rw [decide_eq_true_eq] at *
    rw [Int32.lt_iff_toInt_lt] at *
    omega
  · rw [if_neg h] at *
    rw [decide_eq_false_iff_not] at h1
    rw [decide_eq_true_eq] at *
    rw [Int32.lt_iff_toInt_lt] at *
    omega
theorem ot_be_irr (T : Nat) (x : Int32) : ot_be T x x = false := by
  unfold ot_be
  split <;> simp
theorem ot_be_as {T : Nat} {x y : Int32} (h : ot_be T x y = true) : ot_be T y x = false := by
  unfold ot_be at *
  by_cases h0 : T % 2 = 0
  · rw [if_pos h0] at *
    rw [decide_eq_true_eq] at h
    rw [decide_eq_false_iff_not]
    rw [Int32.lt_iff_toInt_lt] at *
    omega
  · rw [if_neg h0] at *
    rw [decide_eq_true_eq] at h
    rw [decide_eq_false_iff_not]
    rw [Int32.lt_iff_toInt_lt] at *
    omega
theorem ot_bs_st {T : Nat} {f : Nat → ot_A} {S : Nat → Prop} {a : ot_A} (h : ot_bs T f S a) {y : Nat} (hy : ∀ x, S x → x < y) : ot_bs T f (fun x => S x ∨ x = y) (ot_st T a (f y) y) := by
  obtain ⟨c, h1, h2, h3, h4, h5⟩ := h
  by_cases hb : ot_be T (f y).1 a.1 = true
  · have e : ot_st T a (f y) y = ((f y).1, nI y, if (f y).2.2.1 < a.2.2.1 then (f y).2.2.1 else a.2.2.1, a.2.2.2 + (f y).2.2.2) := by
      unfold ot_st
      rw [if_pos hb, if_pos hb]
    rw [e]
    refine ⟨y, Or.inr rfl, rfl, rfl, ?_, ?_⟩
    · intro x hx
      show ot_be T (f x).1 (f y).1 = false
      rcases hx with hx | hx
      · exact ot_be_as (ot_be_tr (h4 x hx) hb)
      · rw [hx]; exact ot_be_irr T _
    · intro x hx hxy
      show ot_be T (f y).1 (f x).1 = true
      rcases hx with hx | hx
      · exact ot_be_tr (h4 x hx) hb
      · omega
  · have e : ot_st T a (f y) y = (a.1, a.2.1, if (f y).2.2.1 < a.2.2.1 then (f y).2.2.1 else a.2.2.1, a.2.2.2 + (f y).2.2.2) := by
      unfold ot_st
      rw [if_neg hb, if_neg hb]
    rw [e]
    refine ⟨c, Or.inl h1, h2, h3, ?_, ?_⟩
    · intro x hx
      show ot_be T (f x).1 a.1 = false
      rcases hx with hx | hx
      · exact h4 x hx
      · rw [hx]; simpa using hb
    · intro x hx hxc
      show ot_be T a.1 (f x).1 = true
      rcases hx with hx | hx
      · exact h5 x hx hxc
      · have := hy c h1
        omega
theorem ot_bs_fold {T : Nat} {f : Nat → ot_A} : ∀ (cs : List Nat) (S : Nat → Prop) (a : ot_A), cs.Pairwise (· < ·) → (∀ x, S x → ∀ y, y ∈ cs → x < y) → ot_bs T f S a →
    ot_bs T f (fun x => S x ∨ x ∈ cs) (cs.foldl (fun a c => ot_st T a (f c) c) a) := by
  intro cs
  induction cs with
  | nil =>
    intro S a _ _ h
    obtain ⟨c, h1, h2, h3, h4, h5⟩ := h
    exact ⟨c, Or.inl h1, h2, h3, fun x hx => h4 x (by simpa using hx), fun x hx => h5 x (by simpa using hx)⟩
  | cons y cs ih =>
    intro S a hp hS h
    rw [List.pairwise_cons] at hp
    rw [List.foldl_cons]
    have h1 := ot_bs_st h (y := y) (fun x hx => hS x hx y (List.mem_cons_self ..))
    have h2 := ih (fun x => S x ∨ x = y) _ hp.2 (by
      intro x hx z hz
      rcases hx with hx | hx
      · exact hS x hx z (List.mem_cons_of_mem _ hz)
      · rw [hx]; exact hp.1 z hz) h1
    obtain ⟨c, g1, g2, g3, g4, g5⟩ := h2
    have hm : ∀ x, (S x ∨ x ∈ y :: cs) → ((S x ∨ x = y) ∨ x ∈ cs) := by
      intro x hx
      rcases hx with hx | hx
      · exact Or.inl (Or.inl hx)
      · rcases List.mem_cons.mp hx with hx | hx
        · exact Or.inl (Or.inr hx)
        · exact Or.inr hx
    refine ⟨c, ?_, g2, g3, fun x hx => g4 x (hm x hx), fun x hx => g5 x (hm x hx)⟩
    rcases g1 with (g1 | g1) | g1
    · exact Or.inl g1
    · exact Or.inr (by rw [g1]; exact List.mem_cons_self ..)
    · exact Or.inr (List.mem_cons_of_mem _ g1)
theorem ot_best (hq : q0 < 4) (he : ∀ p, p < 4 → ot_c (fun c => b c == p) 12 = e) (he3 : e ≤ 3) {l : List Nat} (hok : ot_ok b q0 t l) :
    (ot_K (ot_g b q0 t l) = 0 ∧ (ot_rs 4 b q0 t 12 l).2.1 = -4) ∨
    (∃ c, c < 12 ∧ ot_g b q0 t l c = true ∧ (ot_rs 4 b q0 t 12 l).2.1 = nI c ∧ (ot_rs 4 b q0 t 12 (c :: l)).1 = (ot_rs 4 b q0 t 12 l).1 ∧
      ∀ x, x < c → ot_g b q0 t l x = true → (ot_rs 4 b q0 t 12 (x :: l)).1 ≠ (ot_rs 4 b q0 t 12 l).1) := by
  have hup : ∀ x, x ∈ ot_bl (ot_g b q0 t l) → ot_rs 4 b q0 t 12 (x :: l) = ot_rs 4 b q0 t 11 (x :: l) :=
    fun x hx => ot_rs_up hq he he3 4 11 (x :: l) (ot_ok_bl hok hx) (by simp only [List.length_cons]; omega)
  have hrs : ot_rs 4 b q0 t 12 l = (ot_bl (ot_g b q0 t l)).foldl (fun a c => ot_st (ot_t q0 t l) a (ot_rs 4 b q0 t 11 (c :: l)) c) (ot_en 4 b q0 t l) := by
    rw [ot_rs]
  have hlt := ot_bl_lt (ot_g b q0 t l)
  have hag : ∀ c, c ∈ ot_bl (ot_g b q0 t l) → ot_ag (ot_rs 4 b q0 t 11 (c :: l)) (ot_rs 100 b q0 t 11 (c :: l)) :=
    fun c hc => ot_ag_rs hq he he3 11 (c :: l) (ot_ok_bl hok hc) (by simp only [List.length_cons]; omega)
  cases hb : ot_bl (ot_g b q0 t l) with
  | nil =>
    have h0 : ot_K (ot_g b q0 t l) = 0 := (ot_K_0 _).mpr (ot_bl_nil.mp hb)
    refine Or.inl ⟨h0, ?_⟩
    rw [hrs, hb]
    show (ot_en 4 b q0 t l).2.1 = -4
    unfold ot_en
    rw [if_pos h0]
  | cons y cs =>
    have hn : ¬ ot_K (ot_g b q0 t l) = 0 := by
      intro z
      rw [ot_bl_nil.mpr ((ot_K_0 _).mp z)] at hb
      cases hb
    have hen : ot_en 4 b q0 t l = ot_in 4 (ot_t q0 t l) := by
      unfold ot_en
      rw [if_neg hn]
    rw [hb] at hlt hag
    rw [List.pairwise_cons] at hlt
    obtain ⟨_, _, _, ⟨j, hj, ej⟩, ⟨i, hi, ei⟩⟩ := hag y (List.mem_cons_self ..)
    have h0 : ot_bs (ot_t q0 t l) (fun c => ot_rs 4 b q0 t 11 (c :: l)) (fun x => x = y) (ot_st (ot_t q0 t l) (ot_en 4 b q0 t l) (ot_rs 4 b q0 t 11 (y :: l)) y) := by
      rw [hen, ot_st_in _ _ (by rw [ej]; exact (ot_lt4 j hj).1) (by rw [ej]; exact (ot_lt4 j hj).2.1) (by rw [ei]; exact (ot_lt4 i hi).2.1)]
      refine ⟨y, rfl, rfl, rfl, ?_, ?_⟩
      · intro x hx
        rw [hx]
        exact ot_be_irr _ _
      · intro x hx hxy
        omega
    have h1 := ot_bs_fold cs (fun x => x = y) _ hlt.2 (fun x hx z hz => by rw [hx]; exact hlt.1 z hz) h0
    have hv : cs.foldl (fun a c => ot_st (ot_t q0 t l) a (ot_rs 4 b q0 t 11 (c :: l)) c) (ot_st (ot_t q0 t l) (ot_en 4 b q0 t l) (ot_rs 4 b q0 t 11 (y :: l)) y) = ot_rs 4 b q0 t 12 l := by
      rw [hrs, hb, List.foldl_cons]
    rw [hv] at h1
    obtain ⟨c, g1, g2, g3, g4, g5⟩ := h1
    have hmem : c ∈ ot_bl (ot_g b q0 t l) := by
      rw [hb]
      rcases g1 with g1 | g1
      · rw [g1]; exact List.mem_cons_self ..
      · exact List.mem_cons_of_mem _ g1
    have hcm := ot_bl_mem.mp hmem
    refine Or.inr ⟨c, hcm.1, hcm.2, g2, ?_, ?_⟩
    · rw [hup c hmem]; exact g3.symm
    · intro x hxc hgx hEq
      have hxm : x ∈ ot_bl (ot_g b q0 t l) := ot_bl_mem.mpr ⟨by omega, hgx⟩
      have hxs : x = y ∨ x ∈ cs := by
        rw [hb] at hxm
        exact List.mem_cons.mp hxm
      have := g5 x hxs hxc
      rw [hup x hxm] at hEq
      have e2 : ot_be (ot_t q0 t l) (ot_rs 4 b q0 t 12 l).1 (ot_rs 4 b q0 t 11 (x :: l)).1 = true := this
      rw [hEq, ot_be_irr] at e2
      cases e2
/-! a depth-first search by steps: V r u: from u, with r steps left, all is well; R l fs u: u stands at the history l with the rows fs, the newest first -/
theorem ot_dfs {σ : Type} (hq : q0 < 4) (he : ∀ p, p < 4 → ot_c (fun c => b c == p) 12 = e) (he3 : e ≤ 3) (M : Int32) (B : Nat) (V : Nat → σ → Prop) (R : List Nat → List (List Nat × ot_A) → σ → Prop)
    (S1 : ∀ r l c cs a fs u, r < B → ot_ok b q0 t l → ot_ok b q0 t (c :: l) → R l ((c :: cs, a) :: fs) u →
      (∀ u', R (c :: l) ((ot_bl (ot_g b q0 t (c :: l)), ot_en M b q0 t (c :: l)) :: (cs, a) :: fs) u' → V r u') → V (r + 1) u)
    (S2 : ∀ r l c cs a a' fs u, r < B → ot_ok b q0 t (c :: l) → R (c :: l) (([], a') :: (cs, a) :: fs) u →
      (∀ u', R l ((cs, ot_st (ot_t q0 t l) a a' c) :: fs) u' → V r u') → V (r + 1) u) :
    ∀ (D : Nat) (l : List Nat), ot_ok b q0 t l → 12 ≤ l.length + D + 1 → ∀ cs : List Nat, (∀ c, c ∈ cs → ot_ok b q0 t (c :: l)) → ∀ (a : ot_A) (fs : List (List Nat × ot_A)) (r : Nat) (u : σ),
      r + (cs.map (fun c => ot_co b q0 t D (c :: l) + 2)).sum ≤ B → R l ((cs, a) :: fs) u →
      (∀ u', R l (([], cs.foldl (fun a c => ot_st (ot_t q0 t l) a (ot_rs M b q0 t D (c :: l)) c) a) :: fs) u' → V r u') →
      V (r + (cs.map (fun c => ot_co b q0 t D (c :: l) + 2)).sum) u := by
  intro D
  induction D with
  | zero =>
    intro l hok hl cs
    induction cs with
    | nil => intro _ a fs r u _ hR K; exact K u hR
    | cons c cs ih =>
      intro hcs a fs r u hB hR K
      have hc := hcs c (List.mem_cons_self ..)
      rw [List.map_cons, List.sum_cons] at hB ⊢
      have e1 : r + (ot_co b q0 t 0 (c :: l) + 2 + (cs.map (fun c => ot_co b q0 t 0 (c :: l) + 2)).sum) = (r + (cs.map (fun c => ot_co b q0 t 0 (c :: l) + 2)).sum + 1) + 1 := by
        rw [ot_co]; omega
      rw [e1] at hB ⊢
      refine S1 _ l c cs a fs u (by omega) hok hc hR (fun u1 h1 => ?_)
      rw [ot_full_bl hq he he3 hc (by simp only [List.length_cons]; omega)] at h1
      refine S2 _ l c cs a _ fs u1 (by omega) hc h1 (fun u2 h2 => ?_)
      exact ih (fun x hx => hcs x (List.mem_cons_of_mem _ hx)) _ fs r u2 (by omega) h2 K
  | succ D ihD =>
    intro l hok hl cs
    induction cs with
    | nil => intro _ a fs r u _ hR K; exact K u hR
    | cons c cs ih =>
      intro hcs a fs r u hB hR K
      have hc := hcs c (List.mem_cons_self ..)
      rw [List.map_cons, List.sum_cons] at hB ⊢
      have e1 : r + (ot_co b q0 t (D + 1) (c :: l) + 2 + (cs.map (fun c => ot_co b q0 t (D + 1) (c :: l) + 2)).sum) = (r + (cs.map (fun c => ot_co b q0 t (D + 1) (c :: l) + 2)).sum + 1 + ((ot_bl (ot_g b q0 t (c :: l))).map (fun x => ot_co b q0 t D (x :: c :: l) + 2)).sum) + 1 := by
        rw [ot_co]; omega
      rw [e1] at hB ⊢
      refine S1 _ l c cs a fs u (by omega) hok hc hR (fun u1 h1 => ?_)
      refine ihD (c :: l) hc (by simp only [List.length_cons]; omega) (ot_bl (ot_g b q0 t (c :: l))) (fun x hx => ot_ok_bl hc hx) _ _ _ u1 (by omega) h1 (fun u2 h2 => ?_)
      refine S2 _ l c cs a _ fs u2 (by omega) hc h2 (fun u3 h3 => ?_)
      exact ih (fun x hx => hcs x (List.mem_cons_of_mem _ hx)) _ fs r u3 (by omega) h3 K
end
