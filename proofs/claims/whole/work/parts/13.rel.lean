/-! the relation -/
def ot_B (b : Nat → Nat) : Prop := (∀ c, c < 12 → b c ≤ 4) ∧ ∀ p, p < 4 → ot_c (fun i => b i == p) 12 ≤ 3
def ot_off (b : Nat → Nat) (u : SX) (v : SY) : Prop :=
  ∃ (xt : Int32) (xd xy xl xu xv xc xs xw : Nat → Int32) (yf yt : Int32) (yh yb yy yr yu yv ys yw : Nat → Int32), u = (0, 0, xt, 0, xd, xy, xl, xu, xv, xc, xs, xw) ∧ v = (0, yf, yt, 0, yh, yb, yy, yr, yu, yv, ys, yw) ∧
    (∀ q, q < 4 → xd q = ot_K (fun i => b i == q)) ∧ (∀ i, i < 12 → yh i = nI (b i))
def ot_on (b : Nat → Nat) (u : SX) (v : SY) : Prop :=
  ∃ (q0 e : Nat) (t : Int32) (l : List Nat) (xg xp : Int32) (xd xy xl xu xv xc xs xw : Nat → Int32) (yf yn : Int32) (yh yb yy yr yu yv ys yw : Nat → Int32),
    u = (xg, 1, t, xp, xd, xy, xl, xu, xv, xc, xs, xw) ∧ v = (1, yf, t, yn, yh, yb, yy, yr, yu, yv, ys, yw) ∧ ot_E b q0 e ∧ ot_ok b q0 t l ∧ ot_X b q0 t l xg xp xd xy xl ∧ ot_Y b q0 t l yf yn yh yy yr ∧ (∀ i, i < 12 → yb i = nI (b i))
def i_Rel (_ : Nat) (u : SX) (v : SY) : Prop := ∃ b, ot_B b ∧ (ot_off b u v ∨ ot_on b u v)
theorem i_up {k : Nat} {u : SX} {v : SY} (h : i_Rel k u v) : i_Rel (k + 3) u v := h
/-- on or off: the deal as both sides keep it -/
theorem ot_view {k : Nat} {u : SX} {v : SY} (I : i_Rel k u v) : ∃ b, ot_B b ∧ ∃ (xg xo xt xp : Int32) (xd xy xl xu xv xc xs xw : Nat → Int32) (yo yf yt yn : Int32) (yh yb yy yr yu yv ys yw : Nat → Int32),
    u = (xg, xo, xt, xp, xd, xy, xl, xu, xv, xc, xs, xw) ∧ v = (yo, yf, yt, yn, yh, yb, yy, yr, yu, yv, ys, yw) ∧ (∀ q, q < 4 → xd q = ot_K (fun i => b i == q)) ∧ (∀ c, c < 12 → (if yo = 0 then yh c else yb c) = nI (b c)) := by
  obtain ⟨b, hB, h | h⟩ := I
  · obtain ⟨xt, xd, xy, xl, xu, xv, xc, xs, xw, yf, yt, yh, yb, yy, yr, yu, yv, ys, yw, rfl, rfl, h1, h2⟩ := h
    exact ⟨b, hB, _, _, _, _, _, _, _, _, _, _, _, _, _, _, _, _, _, _, _, _, _, _, _, _, rfl, rfl, h1, fun c hc => by rw [if_pos rfl]; exact h2 c hc⟩
  · obtain ⟨q0, e, t, l, xg, xp, xd, xy, xl, xu, xv, xc, xs, xw, yf, yn, yh, yb, yy, yr, yu, yv, ys, yw, rfl, rfl, E, hok, HX, HY, h2⟩ := h
    exact ⟨b, hB, _, _, _, _, _, _, _, _, _, _, _, _, _, _, _, _, _, _, _, _, _, _, _, _, rfl, rfl, HX.2.2.1, fun c hc => by rw [if_neg (by decide)]; exact h2 c hc⟩
theorem ot_dB {b : Nat → Nat} (hB : ot_B b) {c p : Nat} (hc : c < 12) (hp : p ≤ 4) (h : p < 4 → ot_c (fun i => b i == p && !(i == c)) 12 < 3) : ot_B (ot_d b c p) := by
  refine ⟨fun i hi => ?_, fun q hq => ?_⟩
  · have := hB.1 i hi
    unfold ot_d
    split <;> omega
  · by_cases hqp : q = p
    · have hpl : p < 4 := by omega
      have h1 := h hpl
      have h2 : ot_c (fun i => b i == p && !(i == c)) 12 + 1 = ot_c (fun i => ot_d b c p i == p) 12 := by
        apply ot_c_drop hc
        · intro i _ hne
          show (b i == p && !(i == c)) = ((if i = c then p else b i) == p)
          rw [if_neg hne]
          have e1 : (i == c) = false := by simpa using hne
          rw [e1]; simp
        · show ((if c = c then p else b c) == p) = true
          rw [if_pos rfl]; simp
        · simp
      rw [hqp]
      omega
    · refine Nat.le_trans (ot_c_mono (fun i _ hi => ?_)) (hB.2 q hq)
      have hi' : ((if i = c then p else b i) == q) = true := hi
      by_cases h : i = c
      · rw [if_pos h] at hi'
        simp at hi'
        omega
      · rw [if_neg h] at hi'
        exact hi'
theorem ot_le_of {x : Int32} {n : Nat} (hn : n + 1 < 2 ^ 31) (h : x < nI (n + 1)) : x ≤ nI n := by
  rw [Int32.lt_iff_toInt_lt, nI_toInt hn] at h
  rw [Int32.le_iff_toInt_le, nI_toInt (by omega)]
  omega
theorem ot_nle_of {x : Int32} {n : Nat} (hn : n + 1 < 2 ^ 31) (h : ¬ x < nI (n + 1)) : ¬ x ≤ nI n := by
  rw [Int32.lt_iff_toInt_lt, nI_toInt hn] at h
  rw [Int32.le_iff_toInt_le, nI_toInt (by omega)]
  omega
theorem ot_nge_of {x : Int32} {n : Nat} (hn : n + 1 < 2 ^ 31) (h : ¬ nI (n + 1) ≤ x) : ¬ nI n < x := by
  rw [Int32.le_iff_toInt_le, nI_toInt hn] at h
  rw [Int32.lt_iff_toInt_lt, nI_toInt (by omega)]
  omega
theorem i_vc0 : wpX_init (fun u => wpY_init (fun v => i_Rel 0 u v)) := by
  unfold wpX_init wpY_init
  refine oy_clear (fun yh' h => ?_)
  refine ⟨fun _ => 4, ⟨fun _ _ => Nat.le_refl _, fun p hp => ?_⟩, Or.inl ⟨_, _, _, _, _, _, _, _, _, _, _, _, _, _, _, _, _, _, _, rfl, rfl, fun q hq => ?_, fun i hi => ?_⟩⟩
  · rw [ot_c_0.mpr (fun c _ => by simp; omega)]; decide
  · exact ((ot_K_0 _).mpr (fun c _ => by simp; omega)).symm
  · exact h i hi
theorem i_vc_clear {k : Nat} {u : SX} {v : SY} (I : i_Rel k u v) (hk : k + 3 ≤ 1536) : wpX_clear (fun u' => wpY_clear (fun v' => i_Rel (k + 3) u' v') v) u := by
  obtain ⟨b, hB, xg, xo, xt, xp, xd, xy, xl, xu, xv, xc, xs, xw, yo, yf, yt, yn, yh, yb, yy, yr, yu, yv, ys, yw, rfl, rfl, hd, hF⟩ := ot_view I
  refine ox_clear (fun xd' hd' => ?_)
  refine oy_clear (fun yh' h => ?_)
  refine ⟨fun _ => 4, ⟨fun _ _ => Nat.le_refl _, fun p hp => ?_⟩, Or.inl ⟨_, _, _, _, _, _, _, _, _, _, _, _, _, _, _, _, _, _, _, rfl, rfl, fun q hq => ?_, fun i hi => ?_⟩⟩
  · rw [ot_c_0.mpr (fun c _ => by simp; omega)]; decide
  · rw [hd' q hq]; exact ((ot_K_0 _).mpr (fun c _ => by simp; omega)).symm
  · exact h i hi
theorem i_vc_deal {k : Nat} {u : SX} {v : SY} (I : i_Rel k u v) (hk : k + 3 ≤ 1536) (v1 : Int32) (v2 : Int32) : wpX_deal (fun r u' => wpY_deal (fun r' v' => r' = r ∧ i_Rel (k + 3) u' v') v v1 v2) u v1 v2 := by
  have I' : i_Rel (k + 3) u v := I
  obtain ⟨b, hB, xg, xo, xt, xp, xd, xy, xl, xu, xv, xc, xs, xw, yo, yf, yt, yn, yh, yb, yy, yr, yu, yv, ys, yw, rfl, rfl, hd, hF⟩ := ot_view I
  rcases pk_ix v1 (n := 12) (by decide) with h | h | ⟨c, hc, rfl⟩
  · exact br_t h (br_t h ⟨rfl, I'⟩)
  · have h0 : ¬ v1 < 0 := ot_nlt_ge (m := 0) (by decide) h (by decide)
    exact br_f h0 (br_t h (br_f h0 (br_t (ot_ge (n := 11) (by decide) h) ⟨rfl, I'⟩)))
  · have p1 : ¬ nI c < 0 := nI_pos (by omega)
    have p2 : ¬ 12 ≤ nI c := nI_ge (b := 12) hc (by decide)
    have p3 : ¬ 11 < nI c := nI_nlt (a := 11) (by omega) (by decide)
    rcases ot_p4 v2 with h | h | ⟨p, hp, rfl⟩ | h
    · exact br_f p1 (br_f p2 (br_t h (br_f p1 (br_f p3 (br_t h ⟨rfl, I'⟩)))))
    · subst h
      refine br_f p1 (br_f p2 (br_f (by decide) (br_t (by decide) (nm_r (ot_1 c hc) (br_t (by decide) ?_)))))
      refine ox_d51 hc hd (p := 4) (Or.inl ⟨rfl, rfl⟩) (fun xd' hd' => ?_)
      refine br_f p1 (br_f p3 (br_f (by decide) (br_t (by decide) ?_)))
      refine oy_d27 hB.1 hc hF (Q := fun _ => false) rfl (fun i hi _ => ⟨fun z => absurd z (ot_nI_ne_m1 _ (by have := hB.1 i hi; omega)), fun z => by cases z⟩) (fun z => ?_) (fun _ => ?_)
      · rw [ot_c_0.mpr (fun _ _ => rfl)] at z; omega
      · refine oy_d78 hB.1 hc hF (p := 4) (Or.inl ⟨rfl, rfl⟩) (fun yh' hh' => ?_)
        exact ⟨rfl, ot_d b c 4, ot_dB hB hc (Nat.le_refl _) (fun z => absurd z (by decide)), Or.inl ⟨_, _, _, _, _, _, _, _, _, _, _, _, _, _, _, _, _, _, _, rfl, rfl, hd', hh'⟩⟩
    · have q1 : ¬ nI p < -1 := ot_nI_m1 p (by omega)
      have q2 : nI p < 4 := nI_lt (b := 4) hp (by decide)
      have q3 : ¬ nI p < 0 := nI_pos (by omega)
      have q4 : nI p ≤ 3 := nI_le (b := 3) (by omega) (by decide)
      have ho : ot_c (fun i => b i == p && !(i == c)) 12 ≤ 3 := Nat.le_trans (ot_c_mono (fun i _ hi => by simp at hi; simp [hi.1])) (hB.2 p hp)
      have hQ : ∀ i, i < 12 → i ≠ c → (nI (b i) = nI p ↔ (b i == p && !(i == c)) = true) := by
        intro i hi hne
        have := hB.1 i hi
        rw [nI_eq (by omega) (by omega)]
        simp [hne]
      refine br_f p1 (br_f p2 (br_f q1 (br_t q2 (nm_r (ot_1 c hc) (br_f q3 (And.intro (vp_in_nI hp (by decide)) ?_))))))
      rw [nI_clamp (by omega), hd p hp, ot_K_andn]
      refine ox_size ?_
      by_cases h3 : ot_c (fun i => b i == p && !(i == c)) 12 < 3
      · refine br_t (nI_lt (b := 3) h3 (by decide)) ?_
        refine ox_d51 hc hd (p := p) (Or.inr ⟨rfl, hp⟩) (fun xd' hd' => ?_)
        refine br_f p1 (br_f p3 (br_f q1 (br_t q4 ?_)))
        refine oy_d27 hB.1 hc hF (Q := fun i => b i == p && !(i == c)) (by simp) hQ (fun z => by omega) (fun _ => ?_)
        refine oy_d78 hB.1 hc hF (p := p) (Or.inr ⟨rfl, hp⟩) (fun yh' hh' => ?_)
        exact ⟨rfl, ot_d b c p, ot_dB hB hc (by omega) (fun _ => h3), Or.inl ⟨_, _, _, _, _, _, _, _, _, _, _, _, _, _, _, _, _, _, _, rfl, rfl, hd', hh'⟩⟩
      · refine br_f (nI_nlt (b := 3) (by omega) (by omega)) ?_
        refine br_f p1 (br_f p3 (br_f q1 (br_t q4 ?_)))
        exact oy_d27 hB.1 hc hF (Q := fun i => b i == p && !(i == c)) (by simp) hQ (fun z => ⟨rfl, I'⟩) (fun z => by omega)
    · have q1 : ¬ v2 < -1 := ot_nlt_m1 (by decide) h
      have q2 : ¬ v2 < 4 := ot_nlt_ge (m := 4) (by decide) h (by decide)
      have q3 : ¬ v2 ≤ 3 := ot_nle_ge (m := 3) (by decide) h (by decide)
      exact br_f p1 (br_f p2 (br_f q1 (br_f q2 (br_f p1 (br_f p3 (br_f q1 (br_f q3 ⟨rfl, I'⟩)))))))
theorem i_vc_start {k : Nat} {u : SX} {v : SY} (I : i_Rel k u v) (hk : k + 3 ≤ 1536) (v1 : Int32) (v2 : Int32) : wpX_start (fun r u' => wpY_start (fun r' v' => r' = r ∧ i_Rel (k + 3) u' v') v v1 v2) u v1 v2 := by
  have I' : i_Rel (k + 3) u v := I
  obtain ⟨b, hB, xg, xo, xt, xp, xd, xy, xl, xu, xv, xc, xs, xw, yo, yf, yt, yn, yh, yb, yy, yr, yu, yv, ys, yw, rfl, rfl, hd, hF⟩ := ot_view I
  rcases pk_ix v1 (n := 4) (by decide) with h | h | ⟨q0, hq, rfl⟩
  · exact br_t h (br_t h ⟨rfl, I'⟩)
  · have h0 : ¬ v1 < 0 := ot_nlt_ge (m := 0) (by decide) h (by decide)
    exact br_f h0 (br_t h (br_f h0 (br_t (ot_ge (n := 3) (by decide) h) ⟨rfl, I'⟩)))
  · have p1 : ¬ nI q0 < 0 := nI_pos (by omega)
    have p2 : ¬ 4 ≤ nI q0 := nI_ge (b := 4) hq (by decide)
    have p3 : ¬ 3 < nI q0 := nI_nlt (a := 3) (by omega) (by decide)
    by_cases h1 : v2 < -1
    · exact br_f p1 (br_f p2 (br_t h1 (br_f p1 (br_f p3 (br_t h1 ⟨rfl, I'⟩)))))
    · by_cases h2 : v2 < 3
      · have h3 : v2 ≤ 2 := ot_le_of (n := 2) (by decide) h2
        refine br_f p1 (br_f p2 (br_f h1 (br_t h2 ?_)))
        refine ox_start (x1 := nI q0) (x2 := v2) (post := fun r u' => wpY_start (fun r' v' => r' = r ∧ i_Rel (k + 3) u' v') (yo, yf, yt, yn, yh, yb, yy, yr, yu, yv, ys, yw) (nI q0) v2) hd (fun hs => ?_) (fun hs => ?_)
        · refine br_f p1 (br_f p3 (br_f h1 (br_t h3 ?_)))
          exact oy_s26 hB.1 hB.2 hF (fun _ => ⟨rfl, I'⟩) (fun z => absurd z hs)
        · refine br_f p1 (br_f p3 (br_f h1 (br_t h3 ?_)))
          refine oy_s26 hB.1 hB.2 hF (fun z => absurd hs z) (fun _ yh' yb' g1 g2 => ?_)
          have hE : ot_E b q0 (ot_c (fun i => b i == 0) 12) := ⟨hB.1, hq, hs.2, hB.2 0 (by decide), hs.1⟩
          refine ⟨rfl, b, hB, Or.inr ⟨q0, _, v2, [], _, _, _, _, _, _, _, _, _, _, _, _, _, _, _, _, _, _, _, _, rfl, rfl, hE, True.intro, ⟨?_, rfl, hd, ?_, ?_⟩, ⟨rfl, rfl, g1, ?_, ?_⟩, g2⟩⟩
          · exact ((ot_K_0 _).mpr (fun c _ => by simp [ot_h])).symm
          · intro i hi; exact absurd hi (by simp)
          · intro i hi
            have : i = 0 := by
              have : i ≤ 0 / 4 := hi
              omega
            rw [this, pk_us]; rfl
          · intro i hi; exact absurd hi (by simp)
          · intro i hi; exact absurd hi (by simp)
      · exact br_f p1 (br_f p2 (br_f h1 (br_f h2 (br_f p1 (br_f p3 (br_f h1 (br_f (ot_nle_of (n := 2) (by decide) h2) ⟨rfl, I'⟩)))))))
