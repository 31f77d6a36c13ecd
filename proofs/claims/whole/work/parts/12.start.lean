/-! start and clear -/
def ot_s (b : Nat → Nat) : Nat → Nat
  | 0 => 0
  | n + 1 => ot_s b n + 16 ^ b n
theorem ot_s_eq {b : Nat → Nat} : ∀ n, (∀ i, i < n → b i ≤ 4) → ot_s b n = ot_c (fun i => b i == 0) n + 16 * ot_c (fun i => b i == 1) n + 256 * ot_c (fun i => b i == 2) n + 4096 * ot_c (fun i => b i == 3) n + 65536 * ot_c (fun i => b i == 4) n := by
  intro n
  induction n with
  | zero => intro _; rfl
  | succ n ih =>
    intro h
    have h1 := ih (fun i hi => h i (by omega))
    have h2 := h n (by omega)
    rw [ot_s, h1]
    simp only [ot_c]
    rcases (show b n = 0 ∨ b n = 1 ∨ b n = 2 ∨ b n = 3 ∨ b n = 4 by omega) with hz | hz | hz | hz | hz <;> simp [hz] <;> omega
theorem ot_digF : ∀ a b c d : Fin 4, a.val + 16 * b.val + 256 * c.val + 4096 * d.val = a.val * 4369 → (b.val = a.val ∧ c.val = a.val ∧ d.val = a.val) := by decide +kernel
theorem ot_dig (a : Nat) (ha : a < 4) (b : Nat) (hb : b < 4) (c : Nat) (hc : c < 4) (d : Nat) (hd : d < 4) (h : a + 16 * b + 256 * c + 4096 * d = a * 4369) : b = a ∧ c = a ∧ d = a :=
  ot_digF ⟨a, ha⟩ ⟨b, hb⟩ ⟨c, hc⟩ ⟨d, hd⟩ h
theorem ot_pw : ∀ p, p ≤ 4 → (1 : Int32) <<< ((4 * nI p) &&& 31) = nI (16 ^ p) := by decide +kernel
theorem nx_15 (k : Nat) : nI k &&& 15 = nI (k % 16) := by
  show nI k &&& nI 15 = _
  rw [nx_and, show (15 : Nat) = 2 ^ 4 - 1 from rfl, Nat.and_two_pow_sub_one_eq_mod]
theorem nx_16 (k : Nat) : nI k &&& 65535 = nI (k % 65536) := by
  show nI k &&& nI 65535 = _
  rw [nx_and, show (65535 : Nat) = 2 ^ 16 - 1 from rfl, Nat.and_two_pow_sub_one_eq_mod]
section
variable {b : Nat → Nat} {xg xo xt xp : Int32} {xd xy xl xu xv xc xs xw : Nat → Int32} {yo yf yt yn : Int32} {yh yb yy yr yu yv ys yw : Nat → Int32}
/-- all four have the same number of cards, at least one -/
def ot_same (b : Nat → Nat) : Prop := 1 ≤ ot_c (fun i => b i == 0) 12 ∧ ∀ p, p < 4 → ot_c (fun i => b i == p) 12 = ot_c (fun i => b i == 0) 12
theorem ox_start (hd : ∀ q, q < 4 → xd q = ot_K (fun i => b i == q)) {x1 x2 : Int32} {post : Int32 → SX → Prop}
    (K0 : ¬ ot_same b → post (-4) (xg, xo, xt, xp, xd, xy, xl, xu, xv, xc, xs, xw))
    (K1 : ot_same b → post (nI (ot_c (fun i => b i == 0) 12)) (0, 1, x2, 0, xd, xy, upd xl 0 x1, xu, xv, xc, xs, xw)) :
    wpX_size (fun r_5 => (((r_5 = 0 → (post (-4) (xg, xo, xt, xp, xd, xy, xl, xu, xv, xc, xs, xw))) ∧ (¬ r_5 = 0 → (∃ n42 : Nat, wX_start_42 post x1 x2 r_5 xg xo xt xp xd xy xl xu xv xc xs xw n42 1))))) (xg, xo, xt, xp, xd, xy, xl, xu, xv, xc, xs, xw) (xd 0) := by
  rw [hd 0 (by decide)]
  refine ox_size ?_
  have hle := ot_c_le (fun i => b i == 0) 12
  by_cases hz : ot_c (fun i => b i == 0) 12 = 0
  · exact br_t (by rw [hz]; rfl) (K0 (fun z => by have := z.1; omega))
  · refine br_f (nI_ne0 (by omega) (by omega)) ?_
    have key : ∀ d j, j + d = 4 → (∀ p, p < j → ot_c (fun i => b i == p) 12 = ot_c (fun i => b i == 0) 12) →
        wX_start_42 post x1 x2 (nI (ot_c (fun i => b i == 0) 12)) xg xo xt xp xd xy xl xu xv xc xs xw (d + 1) (nI j) := by
      intro d
      induction d with
      | zero =>
        intro j hj h
        have hj4 : j = 4 := by omega
        subst hj4
        refine br_t (nI_le (a := 4) (Nat.le_refl _) (by decide)) ?_
        unfold wpX_endPlay
        dsimp only
        exact nm_e (K1 ⟨by omega, h⟩)
      | succ d ih =>
        intro j hj h
        refine br_f (nI_ge (b := 4) (by omega) (by decide)) (And.intro (vp_in_nI (by omega) (by decide)) ?_)
        rw [nI_clamp (by omega), hd j (by omega)]
        refine ox_size ?_
        have hle2 := ot_c_le (fun i => b i == j) 12
        by_cases hq : ot_c (fun i => b i == j) 12 = ot_c (fun i => b i == 0) 12
        · refine br_t (congrArg nI hq) (nm_r (nI_1 _) (ih (j + 1) (by omega) (fun p hp => ?_)))
          by_cases hpj : p = j
          · rw [hpj]; exact hq
          · exact h p (by omega)
        · exact br_f (fun z => hq ((nI_eq (by omega) (by omega)).mp z)) (K0 (fun z => hq (z.2 j (by omega))))
    have := key 3 1 (by omega) (fun p hp => by
      have : p = 0 := by omega
      rw [this])
    exact ⟨4, this⟩
theorem oy_s98 (hF : ∀ c, c < 12 → (if yo = 0 then yh c else yb c) = nI (b c)) {x1 x2 x4 : Int32} {post : Int32 → SY → Prop}
    (K : ∀ yh' yb' : Nat → Int32, (∀ i, i < 12 → yh' i = nI (b i)) → (∀ i, i < 12 → yb' i = nI (b i)) → post x4 (1, x1, x2, 0, yh', yb', yy, yr, yu, yv, ys, yw)) :
    ∃ n, wY_start_98 post x1 x2 x4 yo yf yt yn n 0 yh yb yy yr yu yv ys yw := by
  have key : ∀ (d k : Nat) (ye yg : Nat → Int32), k + d = 12 → (∀ i, i < k → ye i = nI (b i) ∧ yg i = nI (b i)) → (∀ i, k ≤ i → i < 12 → (if yo = 0 then ye i else yg i) = nI (b i)) →
      wY_start_98 post x1 x2 x4 yo yf yt yn (d + 1) (nI k) ye yg yy yr yu yv ys yw := by
    intro d
    induction d with
    | zero =>
      intro k ye yg hk h1 h2
      have hk12 : k = 12 := by omega
      subst hk12
      exact br_t (nI_le (a := 12) (Nat.le_refl _) (by decide)) (K ye yg (fun i hi => (h1 i hi).1) (fun i hi => (h1 i hi).2))
    | succ d ih =>
      intro k ye yg hk h1 h2
      have ec : (nI k).toNatClampNeg = k := nI_clamp (by omega)
      have hin : vp_in (nI k) 12 := vp_in_nI (by omega) (by decide)
      have hk2 := h2 k (Nat.le_refl _) (by omega)
      refine br_f (nI_ge (b := 12) (by omega) (by decide)) ?_
      have nx : ∀ z : Int32, z = nI (b k) → wY_start_98 post x1 x2 x4 yo yf yt yn (d + 1) (nI (k + 1)) (upd ye k (upd yg k z k)) (upd yg k z) yy yr yu yv ys yw := by
        intro z hz
        refine ih (k + 1) _ _ (by omega) (fun i hi => ?_) (fun i hi1 hi2 => ?_)
        · by_cases h : i = k
          · rw [h, pk_us, pk_us]; exact ⟨hz, hz⟩
          · rw [pk_un h, pk_un h]; exact h1 i (by omega)
        · rw [pk_un (by omega), pk_un (by omega)]; exact h2 i (by omega) hi2
      unfold wpY_heldAtFirst
      dsimp only
      rw [ec]
      by_cases ho : yo = 0
      · rw [if_pos ho] at hk2
        exact br_t ho (And.intro hin (And.intro hin (nm_e (And.intro hin (And.intro hin (nm_e (nm_r (nI_1 _) (nx _ hk2))))))))
      · rw [if_neg ho] at hk2
        exact br_f ho (And.intro hin (And.intro hin (nm_e (And.intro hin (And.intro hin (nm_e (nm_r (nI_1 _) (nx _ hk2))))))))
  exact ⟨13, key 12 0 yh yb (by omega) (fun i hi => by omega) (fun i _ hi => hF i hi)⟩
theorem oy_s26 (hb : ∀ i, i < 12 → b i ≤ 4) (h3 : ∀ p, p < 4 → ot_c (fun i => b i == p) 12 ≤ 3) (hF : ∀ c, c < 12 → (if yo = 0 then yh c else yb c) = nI (b c)) {x1 x2 : Int32} {post : Int32 → SY → Prop}
    (K0 : ¬ ot_same b → post (-4) (yo, yf, yt, yn, yh, yb, yy, yr, yu, yv, ys, yw))
    (K1 : ot_same b → ∀ yh' yb' : Nat → Int32, (∀ i, i < 12 → yh' i = nI (b i)) → (∀ i, i < 12 → yb' i = nI (b i)) → post (nI (ot_c (fun i => b i == 0) 12)) (1, x1, x2, 0, yh', yb', yy, yr, yu, yv, ys, yw)) :
    ∃ n, wY_start_26 post x1 x2 yo yf yt yn yh yb yy yr yu yv ys yw n 0 0 := by
  have key : ∀ d k, k + d = 12 → wY_start_26 post x1 x2 yo yf yt yn yh yb yy yr yu yv ys yw (d + 1) (nI (ot_s b k)) (nI k) := by
    intro d
    induction d with
    | zero =>
      intro k hk
      have hk12 : k = 12 := by omega
      subst hk12
      have hs := ot_s_eq 12 hb
      have c0 := h3 0 (by decide)
      have c1 := h3 1 (by decide)
      have c2 := h3 2 (by decide)
      have c3 := h3 3 (by decide)
      have c4 := ot_c_le (fun i => b i == 4) 12
      have e1 : nI (ot_s b 12) &&& 15 = nI (ot_c (fun i => b i == 0) 12) := by
        rw [nx_15]; exact congrArg nI (by omega)
      have e2 : nI (ot_s b 12) &&& 65535 = nI (ot_c (fun i => b i == 0) 12 + 16 * ot_c (fun i => b i == 1) 12 + 256 * ot_c (fun i => b i == 2) 12 + 4096 * ot_c (fun i => b i == 3) 12) := by
        rw [nx_16]; exact congrArg nI (by omega)
      have e3 : nI (ot_c (fun i => b i == 0) 12) * 4369 = nI (ot_c (fun i => b i == 0) 12 * 4369) := pk_mul _ 4369
      have hsame : (1 ≤ ot_c (fun i => b i == 0) 12 ∧ ot_c (fun i => b i == 1) 12 = ot_c (fun i => b i == 0) 12 ∧ ot_c (fun i => b i == 2) 12 = ot_c (fun i => b i == 0) 12 ∧ ot_c (fun i => b i == 3) 12 = ot_c (fun i => b i == 0) 12) ↔ ot_same b := by
        constructor
        · rintro ⟨h, g1, g2, g3⟩
          refine ⟨h, fun p hp => ?_⟩
          rcases (show p = 0 ∨ p = 1 ∨ p = 2 ∨ p = 3 by omega) with rfl | rfl | rfl | rfl
          · rfl
          · exact g1
          · exact g2
          · exact g3
        · intro h
          exact ⟨h.1, h.2 1 (by decide), h.2 2 (by decide), h.2 3 (by decide)⟩
      rw [← hsame] at K0 K1
      refine br_t (nI_le (a := 12) (Nat.le_refl _) (by decide)) (nm_r e1 ?_)
      rw [e2, e3]
      generalize ot_c (fun i => b i == 0) 12 = A0 at *
      generalize ot_c (fun i => b i == 1) 12 = A1 at *
      generalize ot_c (fun i => b i == 2) 12 = A2 at *
      generalize ot_c (fun i => b i == 3) 12 = A3 at *
      have tail : ∀ z0 : Int32, (z0 = 0 ∧ ¬ (A1 = A0 ∧ A2 = A0 ∧ A3 = A0) ∨ z0 = 1 ∧ (A1 = A0 ∧ A2 = A0 ∧ A3 = A0)) → wY_start_80 post x1 x2 (nI A0) z0 yo yf yt yn yh yb yy yr yu yv ys yw := by
        intro z0 hz0
        by_cases ha : A0 = 0
        · exact br_t (by rw [ha]; rfl) (K0 (fun z => by have := z.1; omega))
        · refine br_f (nI_ne0 (by omega) (by omega)) ?_
          rcases hz0 with ⟨hz0, hn⟩ | ⟨hz0, hn⟩
          · exact br_t hz0 (K0 (fun z => hn z.2))
          · refine br_f (by rw [hz0]; decide) ?_
            exact oy_s98 hF (K1 ⟨by omega, hn⟩)
      by_cases hq : A0 + 16 * A1 + 256 * A2 + 4096 * A3 = A0 * 4369
      · exact br_t (congrArg nI hq) (tail 1 (Or.inr ⟨rfl, ot_dig A0 (by omega) A1 (by omega) A2 (by omega) A3 (by omega) hq⟩))
      · exact br_f (fun z => hq ((nI_eq (by omega) (by omega)).mp z)) (tail 0 (Or.inl ⟨rfl, by omega⟩))
    | succ d ih =>
      intro k hk
      refine br_f (nI_ge (b := 12) (by omega) (by decide)) ?_
      refine oy_first hF (by omega) ?_
      have e1 : nI (ot_s b k) + ((1 : Int32) <<< ((4 * nI (b k)) &&& 31)) = nI (ot_s b (k + 1)) := by
        rw [ot_pw _ (hb k (by omega)), nI_add, ot_s]
      exact nm_r e1 (nm_r (nI_1 _) (ih (k + 1) (by omega)))
  exact ⟨13, key 12 0 (by omega)⟩
theorem ox_clear {post : SX → Prop} (K : ∀ xd' : Nat → Int32, (∀ q, q < 4 → xd' q = 0) → post (0, 0, xt, 0, xd', xy, xl, xu, xv, xc, xs, xw)) : wpX_clear post (xg, xo, xt, xp, xd, xy, xl, xu, xv, xc, xs, xw) := by
  have key : ∀ (d j : Nat) (xe : Nat → Int32), j + d = 4 → (∀ q, q < j → xe q = 0) → wX_clear_6 post 0 0 xt 0 (d + 1) (nI j) xe xy xl xu xv xc xs xw := by
    intro d
    induction d with
    | zero =>
      intro j xe hj h
      have hj4 : j = 4 := by omega
      subst hj4
      exact br_t (nI_le (a := 4) (Nat.le_refl _) (by decide)) (K xe h)
    | succ d ih =>
      intro j xe hj h
      refine br_f (nI_ge (b := 4) (by omega) (by decide)) (And.intro (vp_in_nI (by omega) (by decide)) (nm_e (nm_r (nI_1 _) ?_)))
      rw [nI_clamp (by omega)]
      refine ih (j + 1) _ (by omega) (fun q hq => ?_)
      by_cases hqj : q = j
      · rw [hqj, pk_us]
      · rw [pk_un hqj]; exact h q (by omega)
  unfold wpX_clear wpX_endPlay
  dsimp only
  exact ⟨5, key 4 0 xd (by omega) (fun q hq => by omega)⟩
theorem oy_clear {post : SY → Prop} (K : ∀ yh' : Nat → Int32, (∀ i, i < 12 → yh' i = 4) → post (0, yf, yt, 0, yh', yb, yy, yr, yu, yv, ys, yw)) : wpY_clear post (yo, yf, yt, yn, yh, yb, yy, yr, yu, yv, ys, yw) := by
  have key : ∀ (d j : Nat) (ye : Nat → Int32), j + d = 12 → (∀ q, q < j → ye q = 4) → wY_clear_2 post yo yf yt yn (d + 1) (nI j) ye yb yy yr yu yv ys yw := by
    intro d
    induction d with
    | zero =>
      intro j ye hj h
      have hj4 : j = 12 := by omega
      subst hj4
      exact br_t (nI_le (a := 12) (Nat.le_refl _) (by decide)) (K ye h)
    | succ d ih =>
      intro j ye hj h
      refine br_f (nI_ge (b := 12) (by omega) (by decide)) (And.intro (vp_in_nI (by omega) (by decide)) (nm_e (nm_r (nI_1 _) ?_)))
      rw [nI_clamp (by omega)]
      refine ih (j + 1) _ (by omega) (fun q hq => ?_)
      by_cases hqj : q = j
      · rw [hqj, pk_us]
      · rw [pk_un hqj]; exact h q (by omega)
  exact ⟨13, key 12 0 yh (by omega) (fun q hq => by omega)⟩
end
