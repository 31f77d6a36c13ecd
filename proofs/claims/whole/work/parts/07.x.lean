/-! the component: put, take back, tricks won, the search -/
section
variable {b : Nat → Nat} {q0 : Nat} {t : Int32} {e : Nat} {l : List Nat} {xg xo xp : Int32} {xd xy xl xu xv xc xs xw : Nat → Int32}
theorem ox_put (E : ot_E b q0 e) {c : Nat} (hok : ot_ok b q0 t (c :: l)) (H : ot_X b q0 t l xg xp xd xy xl) {post : SX → Prop}
    (K : ∀ xg' xp' xy' xl', ot_X b q0 t (c :: l) xg' xp' xd xy' xl' → post (xg', xo, t, xp', xd, xy', xl', xu, xv, xc, xs, xw)) : wpX_put post (xg, xo, t, xp, xd, xy, xl, xu, xv, xc, xs, xw) (nI c) := by
  have hn : l.length + 1 ≤ 12 := ot_E_len E hok
  have hc := hok.2.1
  have hgb := ot_g_b hok.2.2
  have htl := ot_t_lt q0 t l
  have eg : xg ||| ((1 : Int32) <<< (nI c &&& 31)) = ot_K (fun x => !(ot_h b (c :: l) x == b x)) := by
    rw [H.1, ot_1 c hc, ot_K_or]
    apply ot_K_ext
    intro x _
    show (!(ot_h b l x == b x) || x == c) = !((if x = c then 4 else ot_h b l x) == b x)
    by_cases hx : x = c
    · rw [if_pos hx, hx]
      have : ((4 : Nat) == b c) = false := by
        rw [hgb.1]; simp; omega
      rw [this]; simp
    · rw [if_neg hx]
      have : (x == c) = false := by simpa using hx
      rw [this]; simp
  have ey : upd xy xp.toNatClampNeg (nI c) = upd xy l.length (nI c) := by rw [H.2.1, nI_clamp (by omega)]
  have ep : xp + 1 = nI (l.length + 1) := by rw [H.2.1]; exact nI_1 _
  have e1 : nI (l.length + 1) - nI (l.length + 1) / 4 * 4 = nI ((l.length + 1) % 4) := pk_rem (d := 4) (by omega) (by decide) (by decide)
  have hy : ∀ i, i < l.length + 1 → upd xy l.length (nI c) i = nI (ot_p (c :: l) i) := by
    intro i hi
    by_cases h : i = l.length
    · rw [h, pk_us, ot_p_top]
    · rw [pk_un h, ot_p_cons (by omega)]
      exact H.2.2.2.1 i (by omega)
  refine nm_r eg (And.intro (by rw [H.2.1]; exact vp_in_nI (by omega) (by decide)) (nm_r ey (nm_r ep (And.intro (by decide) ?_))))
  by_cases hm : (l.length + 1) % 4 = 0
  · have ed : nI (l.length + 1) / 4 = nI ((l.length + 1) / 4) := pk_div (d := 4) (by omega) (by decide) (by decide)
    have e2 : nI ((l.length + 1) / 4) - 1 = nI (l.length / 4) := by
      have : (l.length + 1) / 4 = l.length / 4 + 1 := by omega
      rw [this]; exact nI_pred _
    refine br_t (by rw [e1, hm]; rfl) (And.intro (by decide) (nm_r ed ?_))
    rw [e2]
    refine ox_top (f := ot_p (c :: l)) (n := l.length + 1) (k := l.length / 4) (L := ot_l q0 t l (l.length / 4)) hn (by omega) hy (fun i _ => ot_p_lt hok i) (H.2.2.2.2 _ (Nat.le_refl _)) (ot_l_lt E.2.1 t l _) ?_
    refine And.intro (vp_in_nI (by omega) (by decide)) (nm_e (K _ _ _ _ ⟨rfl, rfl, H.2.2.1, hy, ?_⟩))
    intro k hk
    have hk' : k ≤ (l.length + 1) / 4 := hk
    rw [nI_clamp (by omega)]
    have hmin : min 3 (l.length + 1 - 4 * (l.length / 4) - 1) = 3 := by omega
    by_cases h : k = (l.length + 1) / 4
    · rw [h, pk_us, ot_l_top hm, hmin]
    · rw [pk_un h, ot_l_cons (by omega)]
      exact H.2.2.2.2 k (by omega)
  · refine br_f (by rw [e1]; exact nI_ne0 (by omega) (by omega)) (K _ _ _ _ ⟨rfl, rfl, H.2.2.1, hy, ?_⟩)
    intro k hk
    have hk' : k ≤ (l.length + 1) / 4 := hk
    rw [ot_l_cons (by omega)]
    exact H.2.2.2.2 k (by omega)
theorem ox_back (E : ot_E b q0 e) {c : Nat} (hok : ot_ok b q0 t (c :: l)) (H : ot_X b q0 t (c :: l) xg xp xd xy xl) {post : Int32 → SX → Prop}
    (K : ∀ xg', ot_X b q0 t l xg' (nI l.length) xd xy xl → post (nI c) (xg', xo, t, nI l.length, xd, xy, xl, xu, xv, xc, xs, xw)) : wpX_takeBack post (xg, xo, t, xp, xd, xy, xl, xu, xv, xc, xs, xw) := by
  have hn : l.length + 1 ≤ 12 := ot_E_len E hok
  have hc := hok.2.1
  have hgb := ot_g_b hok.2.2
  have htl := ot_t_lt q0 t l
  have hL : (c :: l).length = l.length + 1 := rfl
  have ep : xp - 1 = nI l.length := by rw [H.2.1, hL]; exact nI_pred _
  have ey : xy (nI l.length).toNatClampNeg = nI c := by
    rw [nI_clamp (by omega), H.2.2.2.1 l.length (by omega), ot_p_top]
  have eg : xg &&& (((1 : Int32) <<< (nI c &&& 31)) ^^^ (-1)) = ot_K (fun x => !(ot_h b l x == b x)) := by
    rw [H.1, ot_1 c hc, ot_K_andn]
    apply ot_K_ext
    intro x _
    show (!((if x = c then 4 else ot_h b l x) == b x) && !(x == c)) = !(ot_h b l x == b x)
    by_cases hx : x = c
    · rw [if_pos hx, hx, hgb.2]; simp
    · rw [if_neg hx]
      have : (x == c) = false := by simpa using hx
      rw [this]; simp
  unfold wpX_takeBack
  dsimp only
  refine nm_r ep (And.intro (vp_in_nI (by omega) (by decide)) (nm_r ey (nm_r eg (K _ ⟨rfl, rfl, H.2.2.1, ?_, ?_⟩))))
  · intro i hi
    rw [H.2.2.2.1 i (by omega), ot_p_cons hi]
  · intro k hk
    rw [H.2.2.2.2 k (by omega), ot_l_cons hk]
theorem ox_won (E : ot_E b q0 e) (hok : ot_ok b q0 t l) (H : ot_X b q0 t l xg xp xd xy xl) {s : Nat} (hs : s < 2) {post : Int32 → Prop} (K : post (nI (ot_w q0 t l s (l.length / 4)))) :
    wpX_tricksWon post (xg, xo, t, xp, xd, xy, xl, xu, xv, xc, xs, xw) (nI s) := by
  have hn := ot_E_len E hok
  have e1 : xp / 4 = nI (l.length / 4) := by rw [H.2.1]; exact pk_div (d := 4) (by omega) (by decide) (by decide)
  have key : ∀ d k, k + d = l.length / 4 → wX_tricksWon_4 post (nI s) xg xo t xp xd xy xl xu xv xc xs xw (d + 1) (nI (ot_w q0 t l s k)) (nI (k + 1)) := by
    intro d
    induction d with
    | zero =>
      intro k hk
      refine And.intro (by decide) (br_t ?_ ?_)
      · rw [e1]; exact nI_lt (by omega) (by omega)
      · have : k = l.length / 4 := by omega
        rw [this]; exact K
    | succ d ih =>
      intro k hk
      have hl := ot_l_lt E.2.1 t l (k + 1)
      have e2 : xl (nI (k + 1)).toNatClampNeg = nI (ot_l q0 t l (k + 1)) := by rw [nI_clamp (by omega)]; exact H.2.2.2.2 _ (by omega)
      have e3 : nI (ot_l q0 t l (k + 1)) - nI (ot_l q0 t l (k + 1)) / 2 * 2 = nI (ot_l q0 t l (k + 1) % 2) := pk_rem (d := 2) (by omega) (by decide) (by decide)
      refine And.intro (by decide) (br_f ?_ (And.intro (vp_in_nI (by omega) (by decide)) (And.intro (by decide) ?_)))
      · rw [e1]; exact nI_nlt (by omega) (by omega)
      · rw [e2, e3]
        have := ih (k + 1) (by omega)
        by_cases h : ot_l q0 t l (k + 1) % 2 = s
        · have ew : ot_w q0 t l s (k + 1) = ot_w q0 t l s k + 1 := by rw [ot_w, if_pos h]
          rw [ew] at this
          exact br_t (congrArg nI h) (nm_r (nI_1 _) (nm_r (nI_1 _) this))
        · have ew : ot_w q0 t l s (k + 1) = ot_w q0 t l s k := by rw [ot_w, if_neg h]; rfl
          rw [ew] at this
          exact br_f (fun z => h ((nI_eq (by omega) (by omega)).mp z)) (nm_r (nI_1 _) this)
  exact ⟨l.length / 4 + 1, key _ 0 (by omega)⟩
theorem ox_enter (E : ot_E b q0 e) (hok : ot_ok b q0 t l) (H : ot_X b q0 t l xg xp xd xy xl) {post : SX → Prop}
    (K : post (xg, xo, t, xp, xd, xy, xl, upd xu l.length (ot_K (ot_g b q0 t l)), upd xv l.length (ot_en 4 b q0 t l).1, upd xc l.length (ot_en 4 b q0 t l).2.1, upd xs l.length (ot_en 4 b q0 t l).2.2.1, upd xw l.length (ot_en 4 b q0 t l).2.2.2)) :
    wpX_enter post (xg, xo, t, xp, xd, xy, xl, xu, xv, xc, xs, xw) := by
  have hn := ot_E_len E hok
  have ei : ∀ (f : Nat → Int32) (x : Int32), upd f xp.toNatClampNeg x = upd f l.length x := by
    intro f x; rw [H.2.1, nI_clamp (by omega)]
  have hin : vp_in xp 13 := by rw [H.2.1]; exact vp_in_nI (by omega) (by decide)
  unfold wpX_enter
  dsimp only
  refine ox_legal E hok H ?_
  refine And.intro hin (nm_r (ei _ _) (And.intro hin (nm_r (ei _ _) ?_)))
  by_cases h0 : ot_K (ot_g b q0 t l) = 0
  · have een : ot_en 4 b q0 t l = (nI (ot_w q0 t l 0 (l.length / 4)), -4, nI (ot_w q0 t l 0 (l.length / 4)), 1) := by unfold ot_en; rw [if_pos h0]
    rw [een] at K
    refine br_t h0 ?_
    refine ox_won (s := 0) E hok H (by decide) ?_
    exact And.intro hin (nm_r (ei _ _) (And.intro hin (nm_r (ei _ _) (And.intro hin (nm_r (ei _ _) K)))))
  · have een : ot_en 4 b q0 t l = ot_in 4 (ot_t q0 t l) := by unfold ot_en; rw [if_neg h0]
    rw [een] at K
    refine br_f h0 ?_
    refine ox_turn E hok H ?_
    have htl := ot_t_lt q0 t l
    have e3 : nI (ot_t q0 t l) - nI (ot_t q0 t l) / 2 * 2 = nI (ot_t q0 t l % 2) := pk_rem (d := 2) (by omega) (by decide) (by decide)
    refine And.intro (by decide) ?_
    rw [e3]
    by_cases hT : ot_t q0 t l % 2 = 0
    · have ein : ot_in 4 (ot_t q0 t l) = (-1, -4, 4, 0) := by unfold ot_in; rw [if_pos hT]
      rw [ein] at K
      refine br_t (by rw [hT]; rfl) ?_
      exact And.intro hin (nm_r (ei _ _) (And.intro hin (nm_r (ei _ _) (And.intro hin (nm_r (ei _ _) K)))))
    · have ein : ot_in 4 (ot_t q0 t l) = (4, -4, 4, 0) := by unfold ot_in; rw [if_neg hT]
      rw [ein] at K
      refine br_f (nI_ne0 (by omega) (by omega)) ?_
      exact And.intro hin (nm_r (ei _ _) (And.intro hin (nm_r (ei _ _) (And.intro hin (nm_r (ei _ _) K)))))
theorem ox_low {P : Nat → Bool} {post : Int32 → Prop} (K0 : ot_bl P = [] → post (-4)) (K1 : ∀ c cs, ot_bl P = c :: cs → post (nI c)) : wpX_lowestCard post (xg, xo, t, xp, xd, xy, xl, xu, xv, xc, xs, xw) (ot_K P) := by
  have key : ∀ d j, j + d = 12 → (∀ i, i < j → P i = false) → wX_lowestCard_2 post (ot_K P) xg xo t xp xd xy xl xu xv xc xs xw (d + 1) (nI j) := by
    intro d
    induction d with
    | zero =>
      intro j hj hP
      refine br_t (nI_le (a := 12) (by omega) (by omega)) (K0 (ot_bl_nil.mpr (fun c hc => hP c (by omega))))
    | succ d ih =>
      intro j hj hP
      refine br_f (nI_ge (b := 12) (by omega) (by decide)) ?_
      rw [ot_K_bit P (by omega)]
      by_cases hp : P j = true
      · rw [if_pos hp]
        refine br_t rfl ?_
        cases hb : ot_bl P with
        | nil =>
          have := ot_bl_nil.mp hb j (by omega)
          rw [hp] at this; cases this
        | cons c cs =>
          obtain ⟨h1, h2, h3, _⟩ := ot_bl_cons hb
          have : c = j := by
            rcases Nat.lt_trichotomy c j with h | h | h
            · rw [hP c h] at h2; cases h2
            · exact h
            · rw [h3 j h] at hp; cases hp
          rw [← this]; exact K1 c cs hb
      · rw [if_neg hp]
        refine br_f (by decide) (nm_r (nI_1 _) (ih (j + 1) (by omega) (fun i hi => ?_)))
        by_cases h : i = j
        · rw [h]; simpa using hp
        · exact hP i (by omega)
  exact ⟨13, key 12 0 (by omega) (fun i hi => by omega)⟩
theorem ot_nle {x y : Int32} (h : y < x) : ¬ x ≤ y := Int32.not_le.mpr h
theorem ox_leave (E : ot_E b q0 e) {c : Nat} (hok : ot_ok b q0 t (c :: l)) (H : ot_X b q0 t (c :: l) xg xp xd xy xl) {a a' : ot_A} (v1 : xv (l.length + 1) = a'.1) (s1 : xs (l.length + 1) = a'.2.2.1) (w1 : xw (l.length + 1) = a'.2.2.2)
    (v0 : xv l.length = a.1) (c0 : xc l.length = a.2.1) (s0 : xs l.length = a.2.2.1) (w0 : xw l.length = a.2.2.2) {post : SX → Prop}
    (K : ∀ xg', ot_X b q0 t l xg' (nI l.length) xd xy xl → post (xg', xo, t, nI l.length, xd, xy, xl, xu, upd xv l.length (ot_st (ot_t q0 t l) a a' c).1, upd xc l.length (ot_st (ot_t q0 t l) a a' c).2.1, upd xs l.length (ot_st (ot_t q0 t l) a a' c).2.2.1, upd xw l.length (ot_st (ot_t q0 t l) a a' c).2.2.2)) :
    wpX_leave post (xg, xo, t, xp, xd, xy, xl, xu, xv, xc, xs, xw) := by
  have hn : l.length + 1 ≤ 12 := ot_E_len E hok
  have hL : (c :: l).length = l.length + 1 := rfl
  have hin : vp_in xp 13 := by rw [H.2.1, hL]; exact vp_in_nI (by omega) (by decide)
  have hin2 : vp_in (nI l.length) 13 := vp_in_nI (by omega) (by decide)
  have ei : ∀ f : Nat → Int32, f xp.toNatClampNeg = f (l.length + 1) := by intro f; rw [H.2.1, hL, nI_clamp (by omega)]
  have ec : (nI l.length).toNatClampNeg = l.length := nI_clamp (by omega)
  have htl := ot_t_lt q0 t l
  have e3 : nI (ot_t q0 t l) - nI (ot_t q0 t l) / 2 * 2 = nI (ot_t q0 t l % 2) := pk_rem (d := 2) (by omega) (by decide) (by decide)
  refine And.intro hin (nm_r ((ei xv).trans v1) (And.intro hin (nm_r ((ei xs).trans s1) (And.intro hin (nm_r ((ei xw).trans w1) ?_)))))
  refine ox_back E hok H (fun xg' H' => ?_)
  have K' := K xg' H'
  refine ox_turn E hok.1 H' ?_
  refine And.intro (by decide) ?_
  -- the rest, by whether the new value is better
  have fin : ∀ z : Int32, (z = 0 ∧ ot_be (ot_t q0 t l) a'.1 a.1 = false ∨ ¬ z = 0 ∧ ot_be (ot_t q0 t l) a'.1 a.1 = true) →
      wX_leave_84 post a'.1 a'.2.2.1 a'.2.2.2 (nI c) z xg' xo t (nI l.length) xd xy xl xu xv xc xs xw := by
    intro z hz
    have tail : ∀ xv' xc', post (xg', xo, t, nI l.length, xd, xy, xl, xu, xv', xc', upd xs l.length (ot_st (ot_t q0 t l) a a' c).2.2.1, upd xw l.length (ot_st (ot_t q0 t l) a a' c).2.2.2) →
        wX_leave_112 post a'.2.2.1 a'.2.2.2 xg' xo t (nI l.length) xd xy xl xu xv' xc' xs xw := by
      intro xv' xc' hp
      have ew : upd xw (nI l.length).toNatClampNeg (xw (nI l.length).toNatClampNeg + a'.2.2.2) = upd xw l.length (ot_st (ot_t q0 t l) a a' c).2.2.2 := by
        rw [ec, w0]; rfl
      refine And.intro hin2 ?_
      rw [ec, s0]
      by_cases hs : a'.2.2.1 < a.2.2.1
      · have es : (ot_st (ot_t q0 t l) a a' c).2.2.1 = a'.2.2.1 := if_pos hs
        rw [es] at hp
        refine br_f (ot_nle hs) (And.intro hin2 (nm_e ?_))
        exact And.intro hin2 (And.intro hin2 (nm_r ew hp))
      · have es : (ot_st (ot_t q0 t l) a a' c).2.2.1 = a.2.2.1 := if_neg hs
        rw [es, ot_upd_self s0] at hp
        refine br_t (Int32.not_lt.mp hs) ?_
        exact And.intro hin2 (And.intro hin2 (nm_r ew hp))
    rcases hz with ⟨hz, hb⟩ | ⟨hz, hb⟩
    · refine br_t hz (tail _ _ ?_)
      have ev : (ot_st (ot_t q0 t l) a a' c).1 = a.1 := if_neg (by rw [hb]; decide)
      have e2 : (ot_st (ot_t q0 t l) a a' c).2.1 = a.2.1 := if_neg (by rw [hb]; decide)
      rw [ev, e2, ot_upd_self v0, ot_upd_self c0] at K'
      exact K'
    · have ev : (ot_st (ot_t q0 t l) a a' c).1 = a'.1 := if_pos hb
      have e2 : (ot_st (ot_t q0 t l) a a' c).2.1 = nI c := if_pos hb
      rw [ev, e2] at K'
      refine br_f hz (And.intro hin2 (nm_e (And.intro hin2 (nm_e (tail _ _ ?_)))))
      rw [ec]
      exact K'
  rw [e3]
  by_cases hT : ot_t q0 t l % 2 = 0
  · refine br_t (by rw [hT]; rfl) (And.intro hin2 ?_)
    rw [ec, v0]
    by_cases hv : a'.1 ≤ a.1
    · refine br_t hv (fin 0 (Or.inl ⟨rfl, ?_⟩))
      unfold ot_be
      rw [if_pos hT]
      exact decide_eq_false (Int32.not_lt.mpr hv)
    · refine br_f hv (fin 1 (Or.inr ⟨by decide, ?_⟩))
      unfold ot_be
      rw [if_pos hT]
      exact decide_eq_true (Int32.not_le.mp hv)
  · refine br_f (nI_ne0 (by omega) (by omega)) (And.intro hin2 ?_)
    rw [ec, v0]
    by_cases hv : a.1 ≤ a'.1
    · refine br_t hv (fin 0 (Or.inl ⟨rfl, ?_⟩))
      unfold ot_be
      rw [if_neg hT]
      exact decide_eq_false (Int32.not_lt.mpr hv)
    · refine br_f hv (fin 1 (Or.inr ⟨by decide, ?_⟩))
      unfold ot_be
      rw [if_neg hT]
      exact decide_eq_true (Int32.not_le.mp hv)
end
