/-! the calls in play -/
section
variable {b : Nat → Nat} {q0 : Nat} {t : Int32} {e : Nat} {l : List Nat} {yf yn : Int32} {yh yb yy yr yu yv ys yw : Nat → Int32}
theorem oy_after (E : ot_E b q0 e) {c : Nat} (hok : ot_ok b q0 t (c :: l)) (H : ot_Y b q0 t l yf yn yh yy yr) {post : Int32 → SY → Prop}
    (K : ∀ (yn' : Int32) (yh' yy' yr' yu' yv' ys' yw' : Nat → Int32), ot_Y b q0 t l yf yn' yh' yy' yr' → post (ot_rs 100 b q0 t 12 (c :: l)).1 (1, yf, t, yn', yh', yb, yy', yr', yu', yv', ys', yw')) :
    wpY_valueAfter post (1, yf, t, yn, yh, yb, yy, yr, yu, yv, ys, yw) (nI c) := by
  unfold wpY_valueAfter
  dsimp only
  refine oy_lay E hok H (fun yn1 yh1 yy1 yr1 H1 => ?_)
  refine oy_search E hok H1 (fun yh2 yy2 yr2 yu2 yv2 ys2 yw2 H2 e1 _ _ => ?_)
  refine oy_back E hok H2 (fun yh3 H3 _ => ?_)
  have := K _ yh3 yy2 yr2 yu2 yv2 ys2 yw2 H3
  rw [← e1] at this
  exact this
theorem oy_best (E : ot_E b q0 e) (hok : ot_ok b q0 t l) {x1 : Int32} {post : Int32 → SY → Prop}
    (Kn : (∀ c, c < 12 → ot_g b q0 t l c = true → (ot_rs 100 b q0 t 12 (c :: l)).1 ≠ x1) → ∀ (yn' : Int32) (yh' yy' yr' yu' yv' ys' yw' : Nat → Int32), ot_Y b q0 t l yf yn' yh' yy' yr' → post (-4) (1, yf, t, yn', yh', yb, yy', yr', yu', yv', ys', yw'))
    (Kc : ∀ c, c < 12 → ot_g b q0 t l c = true → (ot_rs 100 b q0 t 12 (c :: l)).1 = x1 → (∀ x, x < c → ot_g b q0 t l x = true → (ot_rs 100 b q0 t 12 (x :: l)).1 ≠ x1) →
      ∀ (yn' : Int32) (yh' yy' yr' yu' yv' ys' yw' : Nat → Int32), ot_Y b q0 t l yf yn' yh' yy' yr' → post (nI c) (1, yf, t, yn', yh', yb, yy', yr', yu', yv', ys', yw')) :
    ∀ d j, j + d = 12 → (∀ x, x < j → ot_g b q0 t l x = true → (ot_rs 100 b q0 t 12 (x :: l)).1 ≠ x1) → ∀ (yn : Int32) (yh yy yr yu yv ys yw : Nat → Int32), ot_Y b q0 t l yf yn yh yy yr →
      wY_best_23 post x1 (d + 1) (nI j) 1 yf t yn yh yb yy yr yu yv ys yw := by
  intro d
  induction d with
  | zero =>
    intro j hj h yn yh yy yr yu yv ys yw H
    exact br_t (nI_le (a := 12) (by omega) (by omega)) (Kn (fun c hc => h c (by omega)) _ _ _ _ _ _ _ _ H)
  | succ d ih =>
    intro j hj h yn yh yy yr yu yv ys yw H
    refine br_f (nI_ge (b := 12) (by omega) (by decide)) ?_
    refine oy_may E hok H (fun c hc hv hg => ?_) (fun h0 => ?_)
    · have hcj : j = c := (nI_eq (by omega) (by omega)).mp hv
      subst hcj
      refine br_f (by decide) ?_
      refine oy_after E ⟨hok, hc, hg⟩ H (fun yn' yh' yy' yr' yu' yv' ys' yw' H' => ?_)
      by_cases hx : (ot_rs 100 b q0 t 12 (j :: l)).1 = x1
      · exact br_t hx (Kc j hc hg hx h _ _ _ _ _ _ _ _ H')
      · refine br_f hx (nm_r (nI_1 _) (ih (j + 1) (by omega) (fun x hxj hgx => ?_) _ _ _ _ _ _ _ _ H'))
        by_cases hxe : x = j
        · rw [hxe]; exact hx
        · exact h x (by omega) hgx
    · refine br_t rfl (nm_r (nI_1 _) (ih (j + 1) (by omega) (fun x hxj hgx => ?_) _ _ _ _ _ _ _ _ H))
      by_cases hxe : x = j
      · rw [hxe, h0 j (by omega) rfl] at hgx; cases hgx
      · exact h x (by omega) hgx
end
theorem ot_ne10 : ¬ (1 : Int32) = 0 := by decide
theorem i_vc_hand {k : Nat} {u : SX} {v : SY} (I : i_Rel k u v) (hk : k + 3 ≤ 1536) (v1 : Int32) : wpX_hand (fun r => wpY_hand (fun r' => r' = r ∧ i_Rel (k + 3) u v) v v1) u v1 := by
  have I' : i_Rel (k + 3) u v := I
  obtain ⟨b, hB, h | h⟩ := I
  · obtain ⟨xt, xd, xy, xl, xu, xv, xc, xs, xw, yf, yt, yh, yb, yy, yr, yu, yv, ys, yw, rfl, rfl, h1, h2⟩ := h
    rcases pk_ix v1 (n := 4) (by decide) with h | h | ⟨p, hp, rfl⟩
    · exact br_t h (br_t h ⟨rfl, I'⟩)
    · have h0 : ¬ v1 < 0 := ot_nlt_ge (m := 0) (by decide) h (by decide)
      exact br_f h0 (br_f (ot_nlt_ge (m := 4) (by decide) h (by decide)) (br_f h0 (br_f (ot_nle_ge (m := 3) (by decide) h (by decide)) ⟨rfl, I'⟩)))
    · refine br_f (nI_pos (by omega)) (br_t (nI_lt (b := 4) hp (by decide)) ?_)
      have e1 : xd (nI p).toNatClampNeg &&& ((0 : Int32) ^^^ (-1)) = ot_K (fun i => b i == p) := by
        rw [nI_clamp (by omega), h1 p hp]
        have := ot_K_andn (fun i => b i == p) (fun _ => false)
        rw [ot_K_none] at this
        rw [this]
        exact ot_K_ext (fun c _ => by simp)
      refine And.intro (vp_in_nI hp (by decide)) ?_
      rw [e1]
      refine br_f (nI_pos (by omega)) (br_t (nI_le (b := 3) (by omega) (by decide)) ?_)
      exact oy_hand h2 hB.1 (by omega) ⟨rfl, I'⟩
  · obtain ⟨q0, e, t, l, xg, xp, xd, xy, xl, xu, xv, xc, xs, xw, yf, yn, yh, yb, yy, yr, yu, yv, ys, yw, rfl, rfl, E, hok, HX, HY, h2⟩ := h
    rcases pk_ix v1 (n := 4) (by decide) with h | h | ⟨p, hp, rfl⟩
    · exact br_t h (br_t h ⟨rfl, I'⟩)
    · have h0 : ¬ v1 < 0 := ot_nlt_ge (m := 0) (by decide) h (by decide)
      exact br_f h0 (br_f (ot_nlt_ge (m := 4) (by decide) h (by decide)) (br_f h0 (br_f (ot_nle_ge (m := 3) (by decide) h (by decide)) ⟨rfl, I'⟩)))
    · refine br_f (nI_pos (by omega)) (br_t (nI_lt (b := 4) hp (by decide)) ?_)
      refine ox_held HX hp ?_
      refine br_f (nI_pos (by omega)) (br_t (nI_le (b := 3) (by omega) (by decide)) ?_)
      exact oy_hand HY.2.2.1 (fun c hc => ot_h_le E.1 l hc) (by omega) ⟨rfl, I'⟩
theorem i_vc_toPlay {k : Nat} {u : SX} {v : SY} (I : i_Rel k u v) (hk : k + 3 ≤ 1536) : wpX_toPlay (fun r => wpY_toPlay (fun r' => r' = r ∧ i_Rel (k + 3) u v) v) u := by
  have I' : i_Rel (k + 3) u v := I
  obtain ⟨b, hB, h | h⟩ := I
  · obtain ⟨xt, xd, xy, xl, xu, xv, xc, xs, xw, yf, yt, yh, yb, yy, yr, yu, yv, ys, yw, rfl, rfl, h1, h2⟩ := h
    exact br_t rfl (br_t rfl ⟨rfl, I'⟩)
  · obtain ⟨q0, e, t, l, xg, xp, xd, xy, xl, xu, xv, xc, xs, xw, yf, yn, yh, yb, yy, yr, yu, yv, ys, yw, rfl, rfl, E, hok, HX, HY, h2⟩ := h
    refine br_f ot_ne10 ?_
    refine ox_legal E hok HX ?_
    by_cases h0 : ot_K (ot_g b q0 t l) = 0
    · refine br_t h0 (br_f ot_ne10 ?_)
      exact oy_turn E hok HY (fun _ => ⟨rfl, I'⟩) (fun z => absurd h0 z)
    · refine br_f h0 ?_
      refine ox_turn E hok HX ?_
      refine br_f ot_ne10 ?_
      exact oy_turn E hok HY (fun z => absurd z h0) (fun _ => ⟨rfl, I'⟩)
theorem i_vc_legal {k : Nat} {u : SX} {v : SY} (I : i_Rel k u v) (hk : k + 3 ≤ 1536) : wpX_legal (fun r => wpY_legal (fun r' => r' = r ∧ i_Rel (k + 3) u v) v) u := by
  have I' : i_Rel (k + 3) u v := I
  obtain ⟨b, hB, h | h⟩ := I
  · obtain ⟨xt, xd, xy, xl, xu, xv, xc, xs, xw, yf, yt, yh, yb, yy, yr, yu, yv, ys, yw, rfl, rfl, h1, h2⟩ := h
    exact br_t rfl (br_t rfl ⟨rfl, I'⟩)
  · obtain ⟨q0, e, t, l, xg, xp, xd, xy, xl, xu, xv, xc, xs, xw, yf, yn, yh, yb, yy, yr, yu, yv, ys, yw, rfl, rfl, E, hok, HX, HY, h2⟩ := h
    refine br_f ot_ne10 ?_
    refine ox_legal E hok HX ?_
    refine br_f ot_ne10 ?_
    exact oy_allowed E hok HY ⟨rfl, I'⟩
theorem i_vc_play {k : Nat} {u : SX} {v : SY} (I : i_Rel k u v) (hk : k + 3 ≤ 1536) (v1 : Int32) : wpX_play (fun r u' => wpY_play (fun r' v' => r' = r ∧ i_Rel (k + 3) u' v') v v1) u v1 := by
  have I' : i_Rel (k + 3) u v := I
  obtain ⟨b, hB, h | h⟩ := I
  · obtain ⟨xt, xd, xy, xl, xu, xv, xc, xs, xw, yf, yt, yh, yb, yy, yr, yu, yv, ys, yw, rfl, rfl, h1, h2⟩ := h
    exact br_t rfl (br_t rfl ⟨rfl, I'⟩)
  · obtain ⟨q0, e, t, l, xg, xp, xd, xy, xl, xu, xv, xc, xs, xw, yf, yn, yh, yb, yy, yr, yu, yv, ys, yw, rfl, rfl, E, hok, HX, HY, h2⟩ := h
    refine br_f ot_ne10 ?_
    refine ox_may E hok HX (fun c hc hv hg => ?_) (fun h0 => ?_)
    · subst hv
      refine br_f ot_ne10 ?_
      refine ox_put E ⟨hok, hc, hg⟩ HX (fun xg' xp' xy' xl' HX' => ?_)
      refine And.intro (by decide) (br_f ot_ne10 ?_)
      refine oy_may E hok HY (fun _ _ _ _ => ?_) (fun z => absurd (z c hc rfl) (by rw [hg]; decide))
      refine br_f ot_ne10 ?_
      refine oy_lay E ⟨hok, hc, hg⟩ HY (fun yn' yh' yy' yr' HY' => ?_)
      refine And.intro (by decide) (And.intro ?_ ?_)
      · rw [HX'.2.1, HY'.2.1]
      · exact ⟨b, hB, Or.inr ⟨q0, e, t, c :: l, _, _, _, _, _, _, _, _, _, _, _, _, _, _, _, _, _, _, _, _, rfl, rfl, E, ⟨hok, hc, hg⟩, HX', HY', h2⟩⟩
    · refine br_t rfl (br_f ot_ne10 ?_)
      refine oy_may E hok HY (fun c hc hv hg => absurd (h0 c hc hv) (by rw [hg]; decide)) (fun _ => ?_)
      exact br_t rfl ⟨rfl, I'⟩
theorem i_vc_undo {k : Nat} {u : SX} {v : SY} (I : i_Rel k u v) (hk : k + 3 ≤ 1536) : wpX_undo (fun r u' => wpY_undo (fun r' v' => r' = r ∧ i_Rel (k + 3) u' v') v) u := by
  have I' : i_Rel (k + 3) u v := I
  obtain ⟨b, hB, h | h⟩ := I
  · obtain ⟨xt, xd, xy, xl, xu, xv, xc, xs, xw, yf, yt, yh, yb, yy, yr, yu, yv, ys, yw, rfl, rfl, h1, h2⟩ := h
    exact br_t rfl (br_t rfl ⟨rfl, I'⟩)
  · obtain ⟨q0, e, t, l, xg, xp, xd, xy, xl, xu, xv, xc, xs, xw, yf, yn, yh, yb, yy, yr, yu, yv, ys, yw, rfl, rfl, E, hok, HX, HY, h2⟩ := h
    have hn := ot_E_len E hok
    refine br_f ot_ne10 ?_
    cases l with
    | nil =>
      exact br_t HX.2.1 (br_f ot_ne10 (br_t HY.2.1 ⟨rfl, I'⟩))
    | cons c l =>
      have hL : (c :: l).length = l.length + 1 := rfl
      rw [hL] at hn
      have hx : ¬ xp = 0 := by rw [HX.2.1]; exact nI_ne0 (by omega) (by omega)
      have hy : ¬ yn = 0 := by rw [HY.2.1]; exact nI_ne0 (by omega) (by omega)
      refine br_f hx ?_
      refine ox_back E hok HX (fun xg' HX' => ?_)
      refine br_f ot_ne10 (br_f hy ?_)
      refine oy_back E hok HY (fun yh' HY' ey => ?_)
      refine And.intro (vp_in_nI (by omega) (by decide)) (And.intro ?_ ?_)
      · rw [nI_clamp (by omega), ey]
      · exact ⟨b, hB, Or.inr ⟨q0, e, t, l, _, _, _, _, _, _, _, _, _, _, _, _, _, _, _, _, _, _, _, _, rfl, rfl, E, hok.1, HX', HY', h2⟩⟩
theorem i_vc_won {k : Nat} {u : SX} {v : SY} (I : i_Rel k u v) (hk : k + 3 ≤ 1536) (v1 : Int32) : wpX_won (fun r => wpY_won (fun r' => r' = r ∧ i_Rel (k + 3) u v) v v1) u v1 := by
  have I' : i_Rel (k + 3) u v := I
  obtain ⟨b, hB, h | h⟩ := I
  · obtain ⟨xt, xd, xy, xl, xu, xv, xc, xs, xw, yf, yt, yh, yb, yy, yr, yu, yv, ys, yw, rfl, rfl, h1, h2⟩ := h
    rcases pk_ix v1 (n := 2) (by decide) with h | h | ⟨p, hp, rfl⟩
    · exact br_t h (br_t h ⟨rfl, I'⟩)
    · have h0 : ¬ v1 < 0 := ot_nlt_ge (m := 0) (by decide) h (by decide)
      exact br_f h0 (br_f (ot_nlt_ge (m := 2) (by decide) h (by decide)) (br_f h0 (br_f (ot_nle_ge (m := 1) (by decide) h (by decide)) ⟨rfl, I'⟩)))
    · exact br_f (nI_pos (by omega)) (br_t (nI_lt (b := 2) hp (by decide)) (br_t rfl (br_f (nI_pos (by omega)) (br_t (nI_le (b := 1) (by omega) (by decide)) (br_t rfl ⟨rfl, I'⟩)))))
  · obtain ⟨q0, e, t, l, xg, xp, xd, xy, xl, xu, xv, xc, xs, xw, yf, yn, yh, yb, yy, yr, yu, yv, ys, yw, rfl, rfl, E, hok, HX, HY, h2⟩ := h
    rcases pk_ix v1 (n := 2) (by decide) with h | h | ⟨p, hp, rfl⟩
    · exact br_t h (br_t h ⟨rfl, I'⟩)
    · have h0 : ¬ v1 < 0 := ot_nlt_ge (m := 0) (by decide) h (by decide)
      exact br_f h0 (br_f (ot_nlt_ge (m := 2) (by decide) h (by decide)) (br_f h0 (br_f (ot_nle_ge (m := 1) (by decide) h (by decide)) ⟨rfl, I'⟩)))
    · refine br_f (nI_pos (by omega)) (br_t (nI_lt (b := 2) hp (by decide)) (br_f ot_ne10 ?_))
      refine ox_won E hok HX hp ?_
      refine br_f (nI_pos (by omega)) (br_t (nI_le (b := 1) (by omega) (by decide)) (br_f ot_ne10 ?_))
      exact oy_won E hok HY hp ⟨rfl, I'⟩
theorem i_vc_winning {k : Nat} {u : SX} {v : SY} (I : i_Rel k u v) (hk : k + 3 ≤ 1536) : wpX_winning (fun r => wpY_winning (fun r' => r' = r ∧ i_Rel (k + 3) u v) v) u := by
  have I' : i_Rel (k + 3) u v := I
  obtain ⟨b, hB, h | h⟩ := I
  · obtain ⟨xt, xd, xy, xl, xu, xv, xc, xs, xw, yf, yt, yh, yb, yy, yr, yu, yv, ys, yw, rfl, rfl, h1, h2⟩ := h
    exact br_t rfl (br_t rfl ⟨rfl, I'⟩)
  · obtain ⟨q0, e, t, l, xg, xp, xd, xy, xl, xu, xv, xc, xs, xw, yf, yn, yh, yb, yy, yr, yu, yv, ys, yw, rfl, rfl, E, hok, HX, HY, h2⟩ := h
    have hn := ot_E_len E hok
    obtain ⟨x1, x2, x3, x4, x5⟩ := id HX
    obtain ⟨y1, y2, y3, y4, y5⟩ := id HY
    subst x2 y2
    have e2 : nI l.length - nI l.length / 4 * 4 = nI (l.length % 4) := pk_rem (d := 4) (by omega) (by decide) (by decide)
    have e3 : nI l.length / 4 = nI (l.length / 4) := pk_div (d := 4) (by omega) (by decide) (by decide)
    refine br_f ot_ne10 (And.intro (by decide) ?_)
    by_cases hm : l.length % 4 = 0
    · have hz : nI l.length - nI l.length / 4 * 4 = 0 := by rw [e2, hm]; rfl
      exact br_t hz (br_f ot_ne10 (And.intro (by decide) (br_t hz ⟨rfl, I'⟩)))
    · have hz : ¬ nI l.length - nI l.length / 4 * 4 = 0 := by rw [e2]; exact nI_ne0 (by omega) (by omega)
      refine br_f hz (And.intro (by decide) ?_)
      rw [e3]
      refine ox_top (f := ot_p l) (L := ot_l q0 t l (l.length / 4)) hn (by omega) x4 (fun i _ => ot_p_lt hok i) (x5 _ (Nat.le_refl _)) (ot_l_lt E.2.1 t l _) ?_
      refine br_f ot_ne10 (And.intro (by decide) (br_f hz (And.intro (by decide) ?_)))
      have e4 : nI l.length - (nI l.length - nI l.length / 4 * 4) = nI (4 * (l.length / 4)) := by
        rw [e2, pk_sub (by omega)]; exact congrArg nI (by omega)
      rw [e4]
      refine oy_win (f := ot_p l) hn (by omega) y4 (fun i _ => ot_p_lt hok i) ?_
      have hin := ot_tp_in t (ot_p l) (4 * (l.length / 4)) (min 3 (l.length - 4 * (l.length / 4) - 1))
      generalize ot_tp t (ot_p l) (4 * (l.length / 4)) (min 3 (l.length - 4 * (l.length / 4) - 1)) = z at hin ⊢
      have hz1 : z / 4 = l.length / 4 := by omega
      have hz2 : z % 4 = z - 4 * (l.length / 4) := by omega
      refine And.intro (vp_in_nI (by omega) (by decide)) (And.intro ?_ I')
      rw [nI_clamp (by omega), y5 z (by omega), hz1, hz2]
theorem i_vc_value {k : Nat} {u : SX} {v : SY} (I : i_Rel k u v) (hk : k + 3 ≤ 1536) : wpX_value (fun r u' => wpY_value (fun r' v' => r' = r ∧ i_Rel (k + 3) u' v') v) u := by
  have I' : i_Rel (k + 3) u v := I
  obtain ⟨b, hB, h | h⟩ := I
  · obtain ⟨xt, xd, xy, xl, xu, xv, xc, xs, xw, yf, yt, yh, yb, yy, yr, yu, yv, ys, yw, rfl, rfl, h1, h2⟩ := h
    exact br_t rfl (br_t rfl ⟨rfl, I'⟩)
  · obtain ⟨q0, e, t, l, xg, xp, xd, xy, xl, xu, xv, xc, xs, xw, yf, yn, yh, yb, yy, yr, yu, yv, ys, yw, rfl, rfl, E, hok, HX, HY, h2⟩ := h
    have hn := ot_E_len E hok
    have ag := ot_ag_rs E.2.1 E.2.2.1 E.2.2.2.1 12 l hok (by omega)
    refine br_f ot_ne10 ?_
    refine ox_explore E hok HX (fun xg' xy' xl' xu' xv' xc' xs' xw' HX' w1 w2 w3 w4 => ?_)
    refine And.intro (vp_in_nI (by omega) (by decide)) (br_f ot_ne10 ?_)
    refine oy_search E hok HY (fun yh' yy' yr' yu' yv' ys' yw' HY' z1 z2 z3 => ?_)
    refine And.intro ?_ ⟨b, hB, Or.inr ⟨q0, e, t, l, _, _, _, _, _, _, _, _, _, _, _, _, _, _, _, _, _, _, _, _, rfl, rfl, E, hok, HX', HY', h2⟩⟩
    rw [nI_clamp (by omega), w1, z1, ag.1]
theorem i_vc_least {k : Nat} {u : SX} {v : SY} (I : i_Rel k u v) (hk : k + 3 ≤ 1536) : wpX_least (fun r u' => wpY_least (fun r' v' => r' = r ∧ i_Rel (k + 3) u' v') v) u := by
  have I' : i_Rel (k + 3) u v := I
  obtain ⟨b, hB, h | h⟩ := I
  · obtain ⟨xt, xd, xy, xl, xu, xv, xc, xs, xw, yf, yt, yh, yb, yy, yr, yu, yv, ys, yw, rfl, rfl, h1, h2⟩ := h
    exact br_t rfl (br_t rfl ⟨rfl, I'⟩)
  · obtain ⟨q0, e, t, l, xg, xp, xd, xy, xl, xu, xv, xc, xs, xw, yf, yn, yh, yb, yy, yr, yu, yv, ys, yw, rfl, rfl, E, hok, HX, HY, h2⟩ := h
    have hn := ot_E_len E hok
    have ag := ot_ag_rs E.2.1 E.2.2.1 E.2.2.2.1 12 l hok (by omega)
    refine br_f ot_ne10 ?_
    refine ox_explore E hok HX (fun xg' xy' xl' xu' xv' xc' xs' xw' HX' w1 w2 w3 w4 => ?_)
    refine And.intro (vp_in_nI (by omega) (by decide)) (br_f ot_ne10 ?_)
    refine oy_search E hok HY (fun yh' yy' yr' yu' yv' ys' yw' HY' z1 z2 z3 => ?_)
    refine And.intro ?_ ⟨b, hB, Or.inr ⟨q0, e, t, l, _, _, _, _, _, _, _, _, _, _, _, _, _, _, _, _, _, _, _, _, rfl, rfl, E, hok, HX', HY', h2⟩⟩
    rw [nI_clamp (by omega), w3, z2, ag.2.1]
theorem i_vc_courses {k : Nat} {u : SX} {v : SY} (I : i_Rel k u v) (hk : k + 3 ≤ 1536) : wpX_courses (fun r u' => wpY_courses (fun r' v' => r' = r ∧ i_Rel (k + 3) u' v') v) u := by
  have I' : i_Rel (k + 3) u v := I
  obtain ⟨b, hB, h | h⟩ := I
  · obtain ⟨xt, xd, xy, xl, xu, xv, xc, xs, xw, yf, yt, yh, yb, yy, yr, yu, yv, ys, yw, rfl, rfl, h1, h2⟩ := h
    exact br_t rfl (br_t rfl ⟨rfl, I'⟩)
  · obtain ⟨q0, e, t, l, xg, xp, xd, xy, xl, xu, xv, xc, xs, xw, yf, yn, yh, yb, yy, yr, yu, yv, ys, yw, rfl, rfl, E, hok, HX, HY, h2⟩ := h
    have hn := ot_E_len E hok
    have ag := ot_ag_rs E.2.1 E.2.2.1 E.2.2.2.1 12 l hok (by omega)
    refine br_f ot_ne10 ?_
    refine ox_explore E hok HX (fun xg' xy' xl' xu' xv' xc' xs' xw' HX' w1 w2 w3 w4 => ?_)
    refine And.intro (vp_in_nI (by omega) (by decide)) (br_f ot_ne10 ?_)
    refine oy_search E hok HY (fun yh' yy' yr' yu' yv' ys' yw' HY' z1 z2 z3 => ?_)
    refine And.intro ?_ ⟨b, hB, Or.inr ⟨q0, e, t, l, _, _, _, _, _, _, _, _, _, _, _, _, _, _, _, _, _, _, _, _, rfl, rfl, E, hok, HX', HY', h2⟩⟩
    rw [nI_clamp (by omega), w4, z3, ag.2.2.1]
theorem i_vc_after {k : Nat} {u : SX} {v : SY} (I : i_Rel k u v) (hk : k + 3 ≤ 1536) (v1 : Int32) : wpX_after (fun r u' => wpY_after (fun r' v' => r' = r ∧ i_Rel (k + 3) u' v') v v1) u v1 := by
  have I' : i_Rel (k + 3) u v := I
  obtain ⟨b, hB, h | h⟩ := I
  · obtain ⟨xt, xd, xy, xl, xu, xv, xc, xs, xw, yf, yt, yh, yb, yy, yr, yu, yv, ys, yw, rfl, rfl, h1, h2⟩ := h
    exact br_t rfl (br_t rfl ⟨rfl, I'⟩)
  · obtain ⟨q0, e, t, l, xg, xp, xd, xy, xl, xu, xv, xc, xs, xw, yf, yn, yh, yb, yy, yr, yu, yv, ys, yw, rfl, rfl, E, hok, HX, HY, h2⟩ := h
    refine br_f ot_ne10 ?_
    refine ox_may E hok HX (fun c hc hv hg => ?_) (fun h0 => ?_)
    · subst hv
      have hok' : ot_ok b q0 t (c :: l) := ⟨hok, hc, hg⟩
      have hn : l.length + 1 ≤ 12 := ot_E_len E hok'
      have ag := ot_ag_rs E.2.1 E.2.2.1 E.2.2.2.1 12 (c :: l) hok' (by omega)
      refine br_f ot_ne10 ?_
      refine ox_put E hok' HX (fun xg1 xp1 xy1 xl1 HX1 => ?_)
      refine ox_explore E hok' HX1 (fun xg' xy' xl' xu' xv' xc' xs' xw' HX' w1 w2 w3 w4 => ?_)
      have ew : xv' (nI (c :: l).length).toNatClampNeg = (ot_rs 4 b q0 t 12 (c :: l)).1 := by
        rw [nI_clamp (by rw [List.length_cons]; omega), w1]
      refine And.intro (vp_in_nI (by rw [List.length_cons]; omega) (by decide)) (nm_r ew ?_)
      refine ox_back E hok' HX' (fun xg2 HX2 => ?_)
      refine br_f ot_ne10 ?_
      refine oy_may E hok HY (fun _ _ _ _ => ?_) (fun z => absurd (z c hc rfl) (by rw [hg]; decide))
      refine br_f ot_ne10 ?_
      refine oy_after E hok' HY (fun yn' yh' yy' yr' yu' yv' ys' yw' HY' => ?_)
      exact ⟨ag.1.symm, b, hB, Or.inr ⟨q0, e, t, l, _, _, _, _, _, _, _, _, _, _, _, _, _, _, _, _, _, _, _, _, rfl, rfl, E, hok, HX2, HY', h2⟩⟩
    · refine br_t rfl (br_f ot_ne10 ?_)
      refine oy_may E hok HY (fun c hc hv hg => absurd (h0 c hc hv) (by rw [hg]; decide)) (fun _ => ?_)
      exact br_t rfl ⟨rfl, I'⟩
theorem i_vc_best {k : Nat} {u : SX} {v : SY} (I : i_Rel k u v) (hk : k + 3 ≤ 1536) : wpX_best (fun r u' => wpY_best (fun r' v' => r' = r ∧ i_Rel (k + 3) u' v') v) u := by
  have I' : i_Rel (k + 3) u v := I
  obtain ⟨b, hB, h | h⟩ := I
  · obtain ⟨xt, xd, xy, xl, xu, xv, xc, xs, xw, yf, yt, yh, yb, yy, yr, yu, yv, ys, yw, rfl, rfl, h1, h2⟩ := h
    exact br_t rfl (br_t rfl ⟨rfl, I'⟩)
  · obtain ⟨q0, e, t, l, xg, xp, xd, xy, xl, xu, xv, xc, xs, xw, yf, yn, yh, yb, yy, yr, yu, yv, ys, yw, rfl, rfl, E, hok, HX, HY, h2⟩ := h
    have hn := ot_E_len E hok
    have ag := ot_ag_rs E.2.1 E.2.2.1 E.2.2.2.1 12 l hok (by omega)
    have agc : ∀ c, c < 12 → ot_g b q0 t l c = true → (ot_rs 4 b q0 t 12 (c :: l)).1 = (ot_rs 100 b q0 t 12 (c :: l)).1 :=
      fun c hc hg => (ot_ag_rs E.2.1 E.2.2.1 E.2.2.2.1 12 (c :: l) ⟨hok, hc, hg⟩ (by omega)).1
    refine br_f ot_ne10 ?_
    refine ox_explore E hok HX (fun xg' xy' xl' xu' xv' xc' xs' xw' HX' w1 w2 w3 w4 => ?_)
    have ew : xc' (nI l.length).toNatClampNeg = (ot_rs 4 b q0 t 12 l).2.1 := by rw [nI_clamp (by omega), w2]
    refine And.intro (vp_in_nI (by omega) (by decide)) ?_
    rw [ew]
    refine br_f ot_ne10 ?_
    refine oy_search E hok HY (fun yh' yy' yr' yu' yv' ys' yw' HY' z1 z2 z3 => ?_)
    refine nm_r z1 ⟨13, ?_⟩
    have rel : ∀ (yn2 : Int32) (yh2 yy2 yr2 yu2 yv2 ys2 yw2 : Nat → Int32), ot_Y b q0 t l yf yn2 yh2 yy2 yr2 → i_Rel (k + 3) (xg', 1, t, nI l.length, xd, xy', xl', xu', xv', xc', xs', xw') (1, yf, t, yn2, yh2, yb, yy2, yr2, yu2, yv2, ys2, yw2) :=
      fun _ _ _ _ _ _ _ _ H => ⟨b, hB, Or.inr ⟨q0, e, t, l, _, _, _, _, _, _, _, _, _, _, _, _, _, _, _, _, _, _, _, _, rfl, rfl, E, hok, HX', H, h2⟩⟩
    refine oy_best E hok (fun hno yn2 yh2 yy2 yr2 yu2 yv2 ys2 yw2 H2 => ⟨?_, rel _ _ _ _ _ _ _ _ H2⟩) (fun c hc hg hx hlt yn2 yh2 yy2 yr2 yu2 yv2 ys2 yw2 H2 => ⟨?_, rel _ _ _ _ _ _ _ _ H2⟩) 12 0 (by omega) (fun x hx => by omega) _ _ _ _ _ _ _ _ HY'
    · rcases ot_best E.2.1 E.2.2.1 E.2.2.2.1 hok with ⟨_, hb⟩ | ⟨c, hc, hg, hb, hv, _⟩
      · exact hb.symm
      · exact absurd (by rw [← agc c hc hg, hv, ag.1]) (hno c hc hg)
    · rcases ot_best E.2.1 E.2.2.1 E.2.2.2.1 hok with ⟨h0, hb⟩ | ⟨c', hc', hg', hb, hv, hmin⟩
      · have := (ot_K_0 _).mp h0 c hc
        rw [hg] at this
        cases this
      · rw [hb]
        have hcc : c = c' := by
          rcases Nat.lt_trichotomy c c' with h | h | h
          · exact absurd (by rw [agc c hc hg, hx, ag.1]) (hmin c h hg)
          · exact h
          · exact absurd (by rw [← agc c' hc' hg', hv, ag.1]) (hlt c' h hg')
        rw [hcc]
