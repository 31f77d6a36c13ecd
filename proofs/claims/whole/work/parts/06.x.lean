/-! the component against the game -/
def ot_E (b : Nat → Nat) (q0 e : Nat) : Prop := (∀ c, c < 12 → b c ≤ 4) ∧ q0 < 4 ∧ (∀ p, p < 4 → ot_c (fun c => b c == p) 12 = e) ∧ e ≤ 3 ∧ 1 ≤ e
def ot_X (b : Nat → Nat) (q0 : Nat) (t : Int32) (l : List Nat) (xg xp : Int32) (xd xy xl : Nat → Int32) : Prop :=
  xg = ot_K (fun c => !(ot_h b l c == b c)) ∧ xp = nI l.length ∧ (∀ p, p < 4 → xd p = ot_K (fun c => b c == p)) ∧ (∀ i, i < l.length → xy i = nI (ot_p l i)) ∧ (∀ k, k ≤ l.length / 4 → xl k = nI (ot_l q0 t l k))
theorem ot_ge {v : Int32} {n : Nat} (hn : n + 1 < 2 ^ 31) (h : nI (n + 1) ≤ v) : nI n < v := by
  rw [Int32.le_iff_toInt_le, nI_toInt hn] at h
  rw [Int32.lt_iff_toInt_lt, nI_toInt (by omega)]
  omega
theorem ot_upd_self {f : Nat → Int32} {k : Nat} {x : Int32} (h : f k = x) : upd f k x = f := by
  funext i
  by_cases hi : i = k
  · rw [hi, pk_us, h]
  · rw [pk_un hi]
section
variable {b : Nat → Nat} {q0 : Nat} {t : Int32} {e : Nat} {l : List Nat} {xg xo xp : Int32} {xd xy xl xu xv xc xs xw : Nat → Int32}
theorem ot_E_len (E : ot_E b q0 e) (hok : ot_ok b q0 t l) : l.length ≤ 12 := by
  have h1 := ot_len E.2.1 E.2.2.1 l hok
  have h2 := E.2.2.2.1
  omega
theorem ox_turn (E : ot_E b q0 e) (hok : ot_ok b q0 t l) (H : ot_X b q0 t l xg xp xd xy xl) {post : Int32 → Prop} (K : post (nI (ot_t q0 t l))) : wpX_turn post (xg, xo, t, xp, xd, xy, xl, xu, xv, xc, xs, xw) := by
  have hn := ot_E_len E hok
  have hl := ot_l_lt E.2.1 t l (l.length / 4)
  have e1 : xp / 4 = nI (l.length / 4) := by rw [H.2.1]; exact pk_div (d := 4) (by omega) (by decide) (by decide)
  have e2 : xp - xp / 4 * 4 = nI (l.length % 4) := by rw [H.2.1]; exact pk_rem (d := 4) (by omega) (by decide) (by decide)
  have e3 : xl (xp / 4).toNatClampNeg = nI (ot_l q0 t l (l.length / 4)) := by rw [e1, nI_clamp (by omega)]; exact H.2.2.2.2 _ (Nat.le_refl _)
  have e4 : (xl (xp / 4).toNatClampNeg + (xp - xp / 4 * 4)) - (xl (xp / 4).toNatClampNeg + (xp - xp / 4 * 4)) / 4 * 4 = nI (ot_t q0 t l) := by
    rw [e3, e2, nI_add]
    exact pk_rem (d := 4) (by omega) (by decide) (by decide)
  refine And.intro (by decide) (And.intro ?_ (And.intro (by decide) (And.intro (by decide) ?_)))
  · rw [e1]; exact vp_in_nI (by omega) (by decide)
  · rw [e4]; exact K
theorem ot_heldK (H : ot_X b q0 t l xg xp xd xy xl) {p : Nat} (hp : p < 4) : xd p &&& (xg ^^^ (-1)) = ot_K (fun c => ot_h b l c == p) := by
  rw [H.2.2.1 p hp, H.1, ot_K_andn]
  apply ot_K_ext
  intro c _
  rw [Bool.eq_iff_iff]
  simp only [Bool.and_eq_true, Bool.not_not, beq_iff_eq]
  rcases ot_h_or b l c with h | h <;> omega
theorem ox_held (H : ot_X b q0 t l xg xp xd xy xl) {p : Nat} (hp : p < 4) {post : Int32 → Prop} (K : post (ot_K (fun c => ot_h b l c == p))) : wpX_held post (xg, xo, t, xp, xd, xy, xl, xu, xv, xc, xs, xw) (nI p) := by
  refine And.intro (vp_in_nI hp (by decide)) ?_
  rw [nI_clamp (by omega), ot_heldK H hp]
  exact K
theorem ot_g_m0 (hm : l.length % 4 = 0) : ot_g b q0 t l = fun c => ot_h b l c == ot_t q0 t l := by
  unfold ot_g; rw [if_pos hm]
theorem ot_g_z (hm : ¬ l.length % 4 = 0) (hz : ot_K (ot_f b q0 t l) = 0) : ot_g b q0 t l = fun c => ot_h b l c == ot_t q0 t l := by
  unfold ot_g; rw [if_neg hm, if_pos hz]
theorem ot_g_f (hm : ¬ l.length % 4 = 0) (hz : ¬ ot_K (ot_f b q0 t l) = 0) : ot_g b q0 t l = ot_f b q0 t l := by
  unfold ot_g; rw [if_neg hm, if_neg hz]
theorem ox_legal (E : ot_E b q0 e) (hok : ot_ok b q0 t l) (H : ot_X b q0 t l xg xp xd xy xl) {post : Int32 → Prop} (K : post (ot_K (ot_g b q0 t l))) : wpX_legalCards post (xg, xo, t, xp, xd, xy, xl, xu, xv, xc, xs, xw) := by
  have hn := ot_E_len E hok
  have e2 : xp - xp / 4 * 4 = nI (l.length % 4) := by rw [H.2.1]; exact pk_rem (d := 4) (by omega) (by decide) (by decide)
  unfold wpX_legalCards
  dsimp only
  refine ox_turn E hok H ?_
  refine ox_held H (ot_t_lt q0 t l) ?_
  refine And.intro (by decide) (nm_r e2 ?_)
  by_cases hm : l.length % 4 = 0
  · refine br_t (by rw [hm]; rfl) ?_
    rw [ot_g_m0 hm] at K
    exact K
  · have e3 : xp - nI (l.length % 4) = nI (l.length - l.length % 4) := by rw [H.2.1]; exact pk_sub (by omega)
    have hlt : l.length - l.length % 4 < l.length := by omega
    have hp := ot_p_lt hok (l.length - l.length % 4)
    have e4 : xy (xp - nI (l.length % 4)).toNatClampNeg / 4 = nI (ot_p l (l.length - l.length % 4) / 4) := by
      rw [e3, nI_clamp (by omega), H.2.2.2.1 _ hlt]
      exact pk_div (d := 4) (by omega) (by decide) (by decide)
    have e5 : ot_K (fun c => ot_h b l c == ot_t q0 t l) &&& ((15 : Int32) <<< ((nI (ot_p l (l.length - l.length % 4) / 4) * 4) &&& 31)) = ot_K (ot_f b q0 t l) := by
      have : nI (ot_p l (l.length - l.length % 4) / 4) * 4 = nI (ot_p l (l.length - l.length % 4) / 4 * 4) := pk_mul _ 4
      rw [this, ot_15 _ (by omega), ot_K_and]
      rfl
    refine br_f (nI_ne0 (by omega) (by omega)) (And.intro ?_ (And.intro (by decide) (nm_r e4 (nm_r e5 ?_))))
    · rw [e3]; exact vp_in_nI (by omega) (by decide)
    · by_cases hz : ot_K (ot_f b q0 t l) = 0
      · refine br_t hz ?_
        rw [ot_g_z hm hz] at K
        exact K
      · refine br_f hz ?_
        rw [ot_g_f hm hz] at K
        exact K
theorem ox_may (E : ot_E b q0 e) (hok : ot_ok b q0 t l) (H : ot_X b q0 t l xg xp xd xy xl) {v : Int32} {post : Int32 → Prop} (K1 : ∀ c, c < 12 → v = nI c → ot_g b q0 t l c = true → post 1)
    (K0 : (∀ c, c < 12 → v = nI c → ot_g b q0 t l c = false) → post 0) : wpX_mayBePlayed post (xg, xo, t, xp, xd, xy, xl, xu, xv, xc, xs, xw) v := by
  unfold wpX_mayBePlayed
  dsimp only
  rcases pk_ix v (n := 12) (by decide) with h | h | ⟨j, hj, rfl⟩
  · exact br_t h (K0 (fun c hc z => absurd h (by rw [z]; exact nI_pos (by omega))))
  · have h0 : ¬ v < 0 := fun z => by
      rw [Int32.lt_iff_toInt_lt] at z
      rw [Int32.le_iff_toInt_le, nI_toInt (by decide)] at h
      have : (0 : Int32).toInt = 0 := by decide
      omega
    exact br_f h0 (br_t h (K0 (fun c hc z => absurd h (by rw [z]; exact nI_ge hc (by decide)))))
  · refine br_f (nI_pos (by omega)) (br_f (nI_ge (b := 12) hj (by decide)) ?_)
    refine ox_legal E hok H ?_
    show ((ot_K (ot_g b q0 t l) >>> (nI j &&& 31)) &&& 1 = 1 → post 1) ∧ (¬ (ot_K (ot_g b q0 t l) >>> (nI j &&& 31)) &&& 1 = 1 → post 0)
    rw [ot_K_bit _ hj]
    by_cases hg : ot_g b q0 t l j = true
    · rw [if_pos hg]; exact br_t (by rfl) (K1 j hj rfl hg)
    · rw [if_neg hg]
      refine br_f (by decide) (K0 (fun c hc z => ?_))
      have : j = c := (nI_eq (by omega) (by omega)).mp z
      rw [← this]; simpa using hg
theorem ox_beats {c d : Nat} (hc : c < 12) (hd : d < 12) {post : Int32 → Prop} (K : post (if ot_b t c d = true then 1 else 0)) : wpX_beats post (xg, xo, t, xp, xd, xy, xl, xu, xv, xc, xs, xw) (nI c) (nI d) := by
  have e1 : nI c / 4 = nI (c / 4) := pk_div (d := 4) (by omega) (by decide) (by decide)
  have e2 : nI d / 4 = nI (d / 4) := pk_div (d := 4) (by omega) (by decide) (by decide)
  refine And.intro (by decide) (nm_r e1 (And.intro (by decide) ?_))
  unfold ot_b at K
  rw [e2]
  by_cases h : c / 4 = d / 4
  · rw [if_pos h] at K
    refine br_t (congrArg nI h) ?_
    by_cases h2 : d < c
    · rw [decide_eq_true h2] at K
      exact br_f (nI_ge h2 (by omega)) K
    · rw [decide_eq_false h2] at K
      exact br_t (nI_le (by omega) (by omega)) K
  · rw [if_neg h] at K
    refine br_f (fun z => h ((nI_eq (by omega) (by omega)).mp z)) ?_
    by_cases h2 : nI (c / 4) = t
    · rw [decide_eq_true h2] at K
      exact br_t h2 K
    · rw [decide_eq_false h2] at K
      exact br_f h2 K
theorem ox_top {f : Nat → Nat} {n k L : Nat} (hn : n ≤ 12) (hk : 4 * k < n) (hy : ∀ i, i < n → xy i = nI (f i)) (hf : ∀ i, i < n → f i < 12) (hl : xl k = nI L) (hL : L < 4) {post : Int32 → Prop}
    (K : post (nI ((L + (ot_tp t f (4 * k) (min 3 (n - 4 * k - 1)) - 4 * k)) % 4))) : wpX_topPlayer post (xg, xo, t, nI n, xd, xy, xl, xu, xv, xc, xs, xw) (nI k) := by
  have ek : nI k * 4 = nI (4 * k) := by
    rw [Nat.mul_comm]; exact pk_mul k 4
  have key : ∀ d j, j + d = min 3 (n - 4 * k - 1) → wX_topPlayer_11 post (nI k) (nI (4 * k)) xg xo t (nI n) xd xy xl xu xv xc xs xw (d + 1) (nI (ot_tp t f (4 * k) j)) (nI (4 * k + j + 1)) := by
    intro d
    induction d with
    | zero =>
      intro j hj
      have hj' : j = min 3 (n - 4 * k - 1) := by omega
      have hin := ot_tp_in t f (4 * k) j
      have fin : wX_topPlayer_57 post (nI k) (nI (4 * k)) (nI (ot_tp t f (4 * k) j)) xg xo t (nI n) xd xy xl xu xv xc xs xw := by
        have e1 : xl (nI k).toNatClampNeg = nI L := by rw [nI_clamp (by omega)]; exact hl
        have e2 : nI L + nI (ot_tp t f (4 * k) j) - nI (4 * k) = nI (L + (ot_tp t f (4 * k) j - 4 * k)) := by
          rw [nI_add, pk_sub (by omega)]; exact congrArg nI (by omega)
        refine And.intro (vp_in_nI (by omega) (by decide)) (And.intro (by decide) ?_)
        rw [e1, e2]
        have e3 : nI (L + (ot_tp t f (4 * k) j - 4 * k)) - nI (L + (ot_tp t f (4 * k) j - 4 * k)) / 4 * 4 = nI ((L + (ot_tp t f (4 * k) j - 4 * k)) % 4) := pk_rem (d := 4) (by omega) (by decide) (by decide)
        rw [e3, hj']
        exact K
      by_cases h3 : j = 3
      · refine br_t ?_ fin
        rw [h3]
        have : nI (4 * k) + 4 = nI (4 * k + 4) := nI_add (4 * k) 4
        rw [this]
        exact nI_le (by omega) (by omega)
      · refine br_f ?_ (br_t ?_ fin)
        · have : nI (4 * k) + 4 = nI (4 * k + 4) := nI_add (4 * k) 4
          rw [this]
          exact nI_ge (by omega) (by omega)
        · exact nI_le (by omega) (by omega)
    | succ d ih =>
      intro j hj
      have hin := ot_tp_in t f (4 * k) j
      have h1 : ¬ nI (4 * k) + 4 ≤ nI (4 * k + j + 1) := by
        have : nI (4 * k) + 4 = nI (4 * k + 4) := nI_add (4 * k) 4
        rw [this]
        exact nI_ge (by omega) (by omega)
      have e1 : xy (nI (4 * k + j + 1)).toNatClampNeg = nI (f (4 * k + j + 1)) := by rw [nI_clamp (by omega)]; exact hy _ (by omega)
      have e2 : xy (nI (ot_tp t f (4 * k) j)).toNatClampNeg = nI (f (ot_tp t f (4 * k) j)) := by rw [nI_clamp (by omega)]; exact hy _ (by omega)
      refine br_f h1 (br_f (nI_ge (by omega) (by omega)) (And.intro (vp_in_nI (by omega) (by decide)) (And.intro (vp_in_nI (by omega) (by decide)) ?_)))
      rw [e1, e2]
      refine ox_beats (hf _ (by omega)) (hf _ (by omega)) ?_
      by_cases hb : ot_b t (f (4 * k + j + 1)) (f (ot_tp t f (4 * k) j)) = true
      · have et : ot_tp t f (4 * k) (j + 1) = 4 * k + j + 1 := by rw [ot_tp, if_pos hb]
        rw [if_pos hb]
        refine br_f (by decide) (nm_r (nI_1 _) ?_)
        have := ih (j + 1) (by omega)
        rw [et] at this
        exact this
      · have et : ot_tp t f (4 * k) (j + 1) = ot_tp t f (4 * k) j := by rw [ot_tp, if_neg hb]
        rw [if_neg hb]
        refine br_t rfl (nm_r (nI_1 _) ?_)
        have := ih (j + 1) (by omega)
        rw [et] at this
        exact this
  unfold wpX_topPlayer
  dsimp only
  refine nm_r ek (nm_r (nI_1 _) ⟨min 3 (n - 4 * k - 1) + 1, ?_⟩)
  exact key _ 0 (by omega)
end
