/-! deal, clear, start: both sides against a deal b -/
theorem ot_p4 (x : Int32) : x < -1 ∨ x = -1 ∨ (∃ p : Nat, p < 4 ∧ x = nI p) ∨ nI 4 ≤ x := by
  rcases pk_ix x (n := 4) (by decide) with h | h | h
  · by_cases h1 : x = -1
    · exact Or.inr (Or.inl h1)
    · refine Or.inl ?_
      have hn : ¬ x.toInt = (-1 : Int32).toInt := fun z => h1 (Int32.toInt_inj.mp z)
      rw [Int32.lt_iff_toInt_lt] at *
      have e0 : (0 : Int32).toInt = 0 := by decide
      have e1 : (-1 : Int32).toInt = -1 := by decide
      omega
  · exact Or.inr (Or.inr (Or.inr h))
  · exact Or.inr (Or.inr (Or.inl h))
/-- x is at least n: not below it, nor below anything less -/
theorem ot_nlt_ge {x : Int32} {n m : Nat} (hn : n < 2 ^ 31) (h : nI n ≤ x) (hm : m ≤ n) : ¬ x < nI m := by
  rw [Int32.le_iff_toInt_le, nI_toInt hn] at h
  rw [Int32.lt_iff_toInt_lt, nI_toInt (by omega)]
  omega
theorem ot_nlt_m1 {x : Int32} {n : Nat} (hn : n < 2 ^ 31) (h : nI n ≤ x) : ¬ x < -1 := by
  rw [Int32.le_iff_toInt_le, nI_toInt hn] at h
  rw [Int32.lt_iff_toInt_lt]
  have e1 : (-1 : Int32).toInt = -1 := by decide
  omega
theorem ot_nle_ge {x : Int32} {n m : Nat} (hn : n < 2 ^ 31) (h : nI n ≤ x) (hm : m < n) : ¬ x ≤ nI m := by
  rw [Int32.le_iff_toInt_le, nI_toInt hn] at h
  rw [Int32.le_iff_toInt_le, nI_toInt (by omega)]
  omega
theorem ot_nI_m1 (n : Nat) (hn : n < 2 ^ 31) : ¬ nI n < -1 := by
  rw [Int32.lt_iff_toInt_lt, nI_toInt hn]
  have e1 : (-1 : Int32).toInt = -1 := by decide
  omega
theorem ot_nI_ne_m1 (n : Nat) (hn : n < 2 ^ 31) : ¬ nI n = -1 := by
  intro z
  have := congrArg Int32.toInt z
  rw [nI_toInt hn] at this
  have e1 : (-1 : Int32).toInt = -1 := by decide
  omega
/-- the deal with card c at p (4: at nobody) -/
def ot_d (b : Nat → Nat) (c p : Nat) : Nat → Nat := fun i => if i = c then p else b i
section
variable {b : Nat → Nat} {xg xo xt xp : Int32} {xd xy xl xu xv xc xs xw : Nat → Int32} {yo yf yt yn : Int32} {yh yb yy yr yu yv ys yw : Nat → Int32}
theorem ox_size {P : Nat → Bool} {post : Int32 → Prop} (K : post (nI (ot_c P 12))) : wpX_size post (xg, xo, xt, xp, xd, xy, xl, xu, xv, xc, xs, xw) (ot_K P) := by
  have key : ∀ d k, k + d = 12 → wX_size_4 post (ot_K P) xg xo xt xp xd xy xl xu xv xc xs xw (d + 1) (nI (ot_c P k)) (nI k) := by
    intro d
    induction d with
    | zero =>
      intro k hk
      have : k = 12 := by omega
      subst this
      exact br_t (nI_le (a := 12) (by omega) (by omega)) K
    | succ d ih =>
      intro k hk
      have e1 : nI (ot_c P k) + (ot_K P >>> (nI k &&& 31) &&& 1) = nI (ot_c P (k + 1)) := by
        rw [ot_K_bit P (by omega), nI_add, ot_c]
      exact br_f (nI_ge (b := 12) (by omega) (by decide)) (nm_r e1 (nm_r (nI_1 _) (ih (k + 1) (by omega))))
  exact ⟨13, key 12 0 (by omega)⟩
theorem ox_d97 (hd : ∀ q, q < 4 → xd q = ot_K (fun i => b i == q)) {post : Int32 → SX → Prop} (K : post (nI (ot_c (fun i => decide (b i < 4)) 12)) (xg, xo, xt, xp, xd, xy, xl, xu, xv, xc, xs, xw)) :
    wX_deal_97 post xg xo xt xp xd xy xl xu xv xc xs xw := by
  unfold wX_deal_97
  have e1 : xd 0 ||| xd 1 ||| xd 2 ||| xd 3 = ot_K (fun i => decide (b i < 4)) := by
    rw [hd 0 (by decide), hd 1 (by decide), hd 2 (by decide), hd 3 (by decide), ot_K_or, ot_K_or, ot_K_or]
    apply ot_K_ext
    intro i _
    rw [Bool.eq_iff_iff]
    simp only [Bool.or_eq_true, beq_iff_eq, decide_eq_true_eq]
    omega
  rw [e1]
  exact ox_size K
theorem ox_d51 {c : Nat} (hc : c < 12) (hd : ∀ q, q < 4 → xd q = ot_K (fun i => b i == q)) {v : Int32} {p : Nat} (hv : v = -1 ∧ p = 4 ∨ v = nI p ∧ p < 4) {post : Int32 → SX → Prop}
    (K : ∀ xd' : Nat → Int32, (∀ q, q < 4 → xd' q = ot_K (fun i => ot_d b c p i == q)) → post (nI (ot_c (fun i => decide (ot_d b c p i < 4)) 12)) (0, 0, xt, 0, xd', xy, xl, xu, xv, xc, xs, xw)) :
    wX_deal_51 post v (ot_K (fun i => i == c)) xg xo xt xp xd xy xl xu xv xc xs xw := by
  have key : ∀ (d j : Nat) (xe : Nat → Int32), j + d = 4 → (∀ q, q < j → xe q = ot_K (fun i => b i == q && !(i == c))) → (∀ q, j ≤ q → q < 4 → xe q = ot_K (fun i => b i == q)) →
      wX_deal_58 post v (ot_K (fun i => i == c)) 0 0 xt 0 (d + 1) (nI j) xe xy xl xu xv xc xs xw := by
    intro d
    induction d with
    | zero =>
      intro j xe hj h1 h2
      have hj4 : j = 4 := by omega
      subst hj4
      refine br_t (nI_le (a := 4) (Nat.le_refl _) (by decide)) ?_
      rcases hv with ⟨hv, hp⟩ | ⟨hv, hp⟩
      · subst hv hp
        refine br_t (by decide) ?_
        have hd' : ∀ q, q < 4 → xe q = ot_K (fun i => ot_d b c 4 i == q) := by
          intro q hq
          rw [h1 q hq]
          apply ot_K_ext
          intro i _
          show (b i == q && !(i == c)) = ((if i = c then 4 else b i) == q)
          by_cases h : i = c
          · rw [if_pos h]
            have e1 : ((4 : Nat) == q) = false := by simp; omega
            rw [e1, h]; simp
          · rw [if_neg h]
            have e1 : (i == c) = false := by simpa using h
            rw [e1]; simp
        exact ox_d97 hd' (K xe hd')
      · subst hv
        have ec : (nI p).toNatClampNeg = p := nI_clamp (by omega)
        have hin : vp_in (nI p) 4 := vp_in_nI hp (by decide)
        refine br_f (nI_pos (by omega)) (And.intro hin (And.intro hin (nm_e ?_)))
        rw [ec]
        have hd' : ∀ q, q < 4 → upd xe p (xe p ||| ot_K (fun i => i == c)) q = ot_K (fun i => ot_d b c p i == q) := by
          intro q hq
          by_cases hqp : q = p
          · rw [hqp, pk_us, h1 p hp, ot_K_or]
            apply ot_K_ext
            intro i _
            show (b i == p && !(i == c) || i == c) = ((if i = c then p else b i) == p)
            by_cases h : i = c
            · rw [if_pos h, h]; simp
            · rw [if_neg h]
              have e1 : (i == c) = false := by simpa using h
              rw [e1]; simp
          · rw [pk_un hqp, h1 q hq]
            apply ot_K_ext
            intro i _
            show (b i == q && !(i == c)) = ((if i = c then p else b i) == q)
            by_cases h : i = c
            · rw [if_pos h]
              have e1 : (p == q) = false := by simp; omega
              rw [e1, h]; simp
            · rw [if_neg h]
              have e1 : (i == c) = false := by simpa using h
              rw [e1]; simp
        exact ox_d97 hd' (K _ hd')
    | succ d ih =>
      intro j xe hj h1 h2
      have ec : (nI j).toNatClampNeg = j := nI_clamp (by omega)
      have hin : vp_in (nI j) 4 := vp_in_nI (by omega) (by decide)
      refine br_f (nI_ge (b := 4) (by omega) (by decide)) (And.intro hin (And.intro hin (nm_e (nm_r (nI_1 _) ?_))))
      rw [ec, h2 j (Nat.le_refl _) (by omega), ot_K_andn]
      refine ih (j + 1) _ (by omega) (fun q hq => ?_) (fun q hq1 hq2 => ?_)
      · by_cases h : q = j
        · rw [h, pk_us]
        · rw [pk_un h]; exact h1 q (by omega)
      · rw [pk_un (by omega)]; exact h2 q (by omega) hq2
  unfold wX_deal_51 wpX_endPlay
  dsimp only
  exact ⟨5, key 4 0 xd (by omega) (fun q hq => by omega) (fun q _ hq => hd q hq)⟩
theorem oy_first (hF : ∀ c, c < 12 → (if yo = 0 then yh c else yb c) = nI (b c)) {c : Nat} (hc : c < 12) {post : Int32 → Prop} (K : post (nI (b c))) : wpY_heldAtFirst post (yo, yf, yt, yn, yh, yb, yy, yr, yu, yv, ys, yw) (nI c) := by
  have h := hF c hc
  have ec : (nI c).toNatClampNeg = c := nI_clamp (by omega)
  have hin : vp_in (nI c) 12 := vp_in_nI hc (by decide)
  unfold wpY_heldAtFirst
  dsimp only
  rw [ec]
  by_cases ho : yo = 0
  · rw [if_pos ho] at h
    rw [h]
    exact br_t ho (And.intro hin K)
  · rw [if_neg ho] at h
    rw [h]
    exact br_f ho (And.intro hin K)
theorem oy_d78 (hb : ∀ i, i < 12 → b i ≤ 4) {c : Nat} (hc : c < 12) (hF : ∀ c, c < 12 → (if yo = 0 then yh c else yb c) = nI (b c)) {v : Int32} {p : Nat} (hv : v = -1 ∧ p = 4 ∨ v = nI p ∧ p < 4) {post : Int32 → SY → Prop}
    (K : ∀ yh' : Nat → Int32, (∀ i, i < 12 → yh' i = nI (ot_d b c p i)) → post (nI (ot_c (fun i => decide (ot_d b c p i < 4)) 12)) (0, yf, yt, 0, yh', yb, yy, yr, yu, yv, ys, yw)) :
    ∃ n, wY_deal_78 post (nI c) v yo yf yt yn n 0 0 yh yb yy yr yu yv ys yw := by
  have hp4 : p ≤ 4 := by omega
  have key : ∀ (d k : Nat) (ye : Nat → Int32), k + d = 12 → (∀ i, i < k → ye i = nI (ot_d b c p i)) → (∀ i, k ≤ i → i < 12 → (if yo = 0 then ye i else yb i) = nI (b i)) →
      wY_deal_78 post (nI c) v yo yf yt yn (d + 1) (nI (ot_c (fun i => decide (ot_d b c p i < 4)) k)) (nI k) ye yb yy yr yu yv ys yw := by
    intro d
    induction d with
    | zero =>
      intro k ye hk h1 h2
      have hk12 : k = 12 := by omega
      subst hk12
      exact br_t (nI_le (a := 12) (Nat.le_refl _) (by decide)) (K ye h1)
    | succ d ih =>
      intro k ye hk h1 h2
      have ec : (nI k).toNatClampNeg = k := nI_clamp (by omega)
      have hin : vp_in (nI k) 12 := vp_in_nI (by omega) (by decide)
      have step : ∀ z : Int32, z = nI (ot_d b c p k) → wY_deal_115 post (wY_deal_78 post (nI c) v yo yf yt yn (d + 1)) (nI c) v (nI (ot_c (fun i => decide (ot_d b c p i < 4)) k)) (nI k) z (nI k) yo yf yt yn ye yb yy yr yu yv ys yw := by
        intro z hz
        subst hz
        have hle : ot_d b c p k ≤ 4 := by
          unfold ot_d
          have := hb k (by omega)
          split <;> omega
        refine And.intro hin ?_
        rw [ec]
        refine nm_e (And.intro hin ?_)
        rw [pk_us]
        have nx := ih (k + 1) (upd ye k (nI (ot_d b c p k))) (by omega) (fun i hi => by
          by_cases h : i = k
          · rw [h, pk_us]
          · rw [pk_un h]; exact h1 i (by omega)) (fun i hi1 hi2 => by
          rw [pk_un (by omega)]; exact h2 i (by omega) hi2)
        by_cases h4 : ot_d b c p k < 4
        · have ew : ot_c (fun i => decide (ot_d b c p i < 4)) (k + 1) = ot_c (fun i => decide (ot_d b c p i < 4)) k + 1 := by
            rw [ot_c, if_pos (decide_eq_true h4)]
          rw [ew] at nx
          exact br_f (nI_ge (b := 4) h4 (by decide)) (nm_r (nI_1 _) (nm_r (nI_1 _) nx))
        · have ew : ot_c (fun i => decide (ot_d b c p i < 4)) (k + 1) = ot_c (fun i => decide (ot_d b c p i < 4)) k := by
            rw [ot_c, if_neg (by simpa using h4)]; rfl
          rw [ew] at nx
          exact br_t (nI_le (a := 4) (by omega) (by omega)) (nm_r (nI_1 _) nx)
      refine br_f (nI_ge (b := 12) (by omega) (by decide)) ?_
      by_cases hkc : k = c
      · refine br_t (congrArg nI hkc) ?_
        have ed : ot_d b c p k = p := if_pos hkc
        rcases hv with ⟨hv, hp⟩ | ⟨hv, hp⟩
        · refine br_f (by rw [hv]; decide) (step 4 ?_)
          rw [ed, hp]; rfl
        · refine br_t (by rw [hv]; exact nI_pos' (by omega)) (step v ?_)
          rw [ed, hv]
      · refine br_f (fun z => hkc ((nI_eq (by omega) (by omega)).mp z)) ?_
        have ed : ot_d b c p k = b k := if_neg hkc
        have hk2 := h2 k (Nat.le_refl _) (by omega)
        unfold wpY_heldAtFirst
        dsimp only
        rw [ec]
        by_cases ho : yo = 0
        · rw [if_pos ho] at hk2
          exact br_t ho (And.intro hin (step _ (by rw [hk2, ed])))
        · rw [if_neg ho] at hk2
          exact br_f ho (And.intro hin (step _ (by rw [hk2, ed])))
  have := key 12 0 yh (by omega) (fun i hi => by omega) (fun i _ hi => hF i hi)
  exact ⟨13, this⟩
theorem oy_d27 (hb : ∀ i, i < 12 → b i ≤ 4) {c : Nat} (hc : c < 12) (hF : ∀ c, c < 12 → (if yo = 0 then yh c else yb c) = nI (b c)) {v : Int32} {Q : Nat → Bool} (hQc : Q c = false) (hQ : ∀ i, i < 12 → i ≠ c → (nI (b i) = v ↔ Q i = true)) {post : Int32 → SY → Prop}
    (K3 : ot_c Q 12 = 3 → post (-2) (yo, yf, yt, yn, yh, yb, yy, yr, yu, yv, ys, yw)) (K : ot_c Q 12 ≠ 3 → ∃ n, wY_deal_78 post (nI c) v yo yf yt yn n 0 0 yh yb yy yr yu yv ys yw) :
    ∃ n, wY_deal_27 post (nI c) v yo yf yt yn yh yb yy yr yu yv ys yw n 0 0 := by
  have key : ∀ d k, k + d = 12 → wY_deal_27 post (nI c) v yo yf yt yn yh yb yy yr yu yv ys yw (d + 1) (nI (ot_c Q k)) (nI k) := by
    intro d
    induction d with
    | zero =>
      intro k hk
      have hk12 : k = 12 := by omega
      subst hk12
      have hle := ot_c_le Q 12
      refine br_t (nI_le (a := 12) (Nat.le_refl _) (by decide)) ?_
      by_cases h3 : ot_c Q 12 = 3
      · exact br_t (by rw [h3]; rfl) (K3 h3)
      · exact br_f (fun z => h3 ((nI_eq (b := 3) (by omega) (by decide)).mp z)) (K h3)
    | succ d ih =>
      intro k hk
      have nx := ih (k + 1) (by omega)
      refine br_f (nI_ge (b := 12) (by omega) (by decide)) ?_
      by_cases hkc : k = c
      · have ew : ot_c Q (k + 1) = ot_c Q k := by rw [ot_c, hkc, hQc]; rfl
        rw [ew] at nx
        exact br_t (congrArg nI hkc) (nm_r (nI_1 _) nx)
      · refine br_f (fun z => hkc ((nI_eq (by omega) (by omega)).mp z)) ?_
        refine oy_first hF (by omega) ?_
        have hq := hQ k (by omega) hkc
        by_cases hz : Q k = true
        · have ew : ot_c Q (k + 1) = ot_c Q k + 1 := by rw [ot_c, if_pos hz]
          rw [ew] at nx
          exact br_t (hq.mpr hz) (nm_r (nI_1 _) (nm_r (nI_1 _) nx))
        · have ew : ot_c Q (k + 1) = ot_c Q k := by rw [ot_c, if_neg hz]; rfl
          rw [ew] at nx
          exact br_f (fun z => hz (hq.mp z)) (nm_r (nI_1 _) nx)
  exact ⟨13, key 12 0 (by omega)⟩
end
