/-! the reference: lay, take back, tricks won, the search -/
section
variable {b : Nat → Nat} {q0 : Nat} {t : Int32} {e : Nat} {l : List Nat} {yo yf yn : Int32} {yh yb yy yr yu yv ys yw : Nat → Int32}
theorem oy_lay (E : ot_E b q0 e) {c : Nat} (hok : ot_ok b q0 t (c :: l)) (H : ot_Y b q0 t l yf yn yh yy yr) {post : SY → Prop}
    (K : ∀ yn' yh' yy' yr', ot_Y b q0 t (c :: l) yf yn' yh' yy' yr' → post (yo, yf, t, yn', yh', yb, yy', yr', yu, yv, ys, yw)) : wpY_lay post (yo, yf, t, yn, yh, yb, yy, yr, yu, yv, ys, yw) (nI c) := by
  have hn : l.length + 1 ≤ 12 := ot_E_len E hok
  have hc := hok.2.1
  obtain ⟨hf, hp, hh, hy, hr⟩ := H
  subst hp
  have ec : (nI c).toNatClampNeg = c := nI_clamp (by omega)
  have en : (nI l.length).toNatClampNeg = l.length := nI_clamp (by omega)
  have hi : vp_in (nI c) 12 := vp_in_nI hc (by decide)
  have hi2 : vp_in (nI l.length) 12 := vp_in_nI (by omega) (by decide)
  unfold wpY_lay
  dsimp only
  rw [ec, en]
  refine And.intro hi (And.intro hi2 (nm_e (And.intro hi2 (nm_e (And.intro hi (nm_e (nm_r (nI_1 _) (K _ _ _ _ ⟨hf, rfl, ?_, ?_, ?_⟩))))))))
  · intro x hx
    show upd yh c 4 x = nI (if x = c then 4 else ot_h b l x)
    by_cases h : x = c
    · rw [h, pk_us, if_pos rfl]; rfl
    · rw [pk_un h, if_neg h]; exact hh x hx
  · intro i hi
    have hi' : i < l.length + 1 := hi
    by_cases h : i = l.length
    · rw [h, pk_us, ot_p_top]
    · rw [pk_un h, ot_p_cons (by omega)]
      exact hy i (by omega)
  · intro i hi
    have hi' : i < l.length + 1 := hi
    rw [ot_l_cons (by omega)]
    by_cases h : i = l.length
    · rw [h, pk_us, hh c hc, ot_g_h hok.2.2]; rfl
    · rw [pk_un h]
      exact hr i (by omega)
theorem oy_back (E : ot_E b q0 e) {c : Nat} (hok : ot_ok b q0 t (c :: l)) (H : ot_Y b q0 t (c :: l) yf yn yh yy yr) {post : SY → Prop}
    (K : ∀ yh', ot_Y b q0 t l yf (nI l.length) yh' yy yr → yy l.length = nI c → post (yo, yf, t, nI l.length, yh', yb, yy, yr, yu, yv, ys, yw)) : wpY_takeBack post (yo, yf, t, yn, yh, yb, yy, yr, yu, yv, ys, yw) := by
  have hn : l.length + 1 ≤ 12 := ot_E_len E hok
  have hc := hok.2.1
  obtain ⟨hf, hp, hh, hy, hr⟩ := H
  have hL : (c :: l).length = l.length + 1 := rfl
  have ep : yn - 1 = nI l.length := by rw [hp, hL]; exact nI_pred _
  have en : (nI l.length).toNatClampNeg = l.length := nI_clamp (by omega)
  have ey : yy l.length = nI c := by rw [hy _ (by omega), ot_p_top]
  have ec : (nI c).toNatClampNeg = c := nI_clamp (by omega)
  have er : yr l.length = nI (ot_h b l c) := by
    rw [hr _ (by omega), ot_l_cons (Nat.le_refl _), ot_g_h hok.2.2]; rfl
  have hi2 : vp_in (nI l.length) 12 := vp_in_nI (by omega) (by decide)
  unfold wpY_takeBack
  dsimp only
  refine nm_r ep ?_
  rw [en, ey, ec, er]
  refine And.intro hi2 (And.intro hi2 (And.intro (vp_in_nI hc (by decide)) (nm_e (K _ ⟨hf, rfl, ?_, ?_, ?_⟩ ey))))
  · intro x hx
    by_cases h : x = c
    · rw [h, pk_us]
    · rw [pk_un h, hh x hx]
      exact congrArg nI (if_neg h)
  · intro i hi
    rw [hy i (by omega), ot_p_cons hi]
  · intro i hi
    rw [hr i (by omega), ot_l_cons (by omega)]
theorem oy_won (E : ot_E b q0 e) (hok : ot_ok b q0 t l) (H : ot_Y b q0 t l yf yn yh yy yr) {s : Nat} (hs : s < 2) {post : Int32 → Prop} (K : post (nI (ot_w q0 t l s (l.length / 4)))) :
    wpY_wonBy post (yo, yf, t, yn, yh, yb, yy, yr, yu, yv, ys, yw) (nI s) := by
  have hn := ot_E_len E hok
  obtain ⟨hf, hp, hh, hy, hr⟩ := id H
  subst hp
  have key : ∀ d k, k + d = l.length / 4 → wY_wonBy_4 post (nI s) yo yf t (nI l.length) yh yb yy yr yu yv ys yw (d + 1) (nI (ot_w q0 t l s k)) (nI (4 * k)) := by
    intro d
    induction d with
    | zero =>
      intro k hk
      have e4 : nI (4 * k) + 4 = nI (4 * k + 4) := nI_add _ 4
      refine br_t ?_ ?_
      · rw [e4]; exact nI_lt (by omega) (by omega)
      · have : k = l.length / 4 := by omega
        rw [this]; exact K
    | succ d ih =>
      intro k hk
      have e4 : nI (4 * k) + 4 = nI (4 * k + 4) := nI_add _ 4
      have e5 : nI (4 * k) + 4 = nI (4 * (k + 1)) := by rw [e4]; exact congrArg nI (by omega)
      have hl := ot_l_lt E.2.1 t l (k + 1)
      have epl := oy_pl E hok H (k := k) (by omega)
      have hin := ot_tp_in t (ot_p l) (4 * k) 3
      have e3 : nI (ot_l q0 t l (k + 1)) - nI (ot_l q0 t l (k + 1)) / 2 * 2 = nI (ot_l q0 t l (k + 1) % 2) := pk_rem (d := 2) (by omega) (by decide) (by decide)
      refine br_f (by rw [e4]; exact nI_nlt (by omega) (by omega)) ?_
      refine oy_win (f := ot_p l) hn (by omega) hy (fun i _ => ot_p_lt hok i) ?_
      have hmin : min 3 (l.length - 4 * k - 1) = 3 := by omega
      rw [hmin]
      refine And.intro (vp_in_nI (by omega) (by decide)) (And.intro (by decide) ?_)
      rw [epl, e3]
      have := ih (k + 1) (by omega)
      by_cases h : ot_l q0 t l (k + 1) % 2 = s
      · have ew : ot_w q0 t l s (k + 1) = ot_w q0 t l s k + 1 := by rw [ot_w, if_pos h]
        rw [ew] at this
        exact br_t (congrArg nI h) (nm_r (nI_1 _) (nm_r e5 this))
      · have ew : ot_w q0 t l s (k + 1) = ot_w q0 t l s k := by rw [ot_w, if_neg h]; rfl
        rw [ew] at this
        exact br_f (fun z => h ((nI_eq (by omega) (by omega)).mp z)) (nm_r e5 this)
  exact ⟨l.length / 4 + 1, key _ 0 (by omega)⟩
theorem oy_enter (E : ot_E b q0 e) (hok : ot_ok b q0 t l) (H : ot_Y b q0 t l yf yn yh yy yr) {d : Nat} (hd : d < 13) {post : SY → Prop}
    (K : post (yo, yf, t, yn, yh, yb, yy, yr, upd yu d (ot_K (ot_g b q0 t l)), upd yv d (ot_en 100 b q0 t l).1, upd ys d (ot_en 100 b q0 t l).2.2.1, upd yw d (ot_en 100 b q0 t l).2.2.2)) :
    wpY_enter post (yo, yf, t, yn, yh, yb, yy, yr, yu, yv, ys, yw) (nI d) := by
  have hin : vp_in (nI d) 13 := vp_in_nI hd (by decide)
  have ec : (nI d).toNatClampNeg = d := nI_clamp (by omega)
  have htl := ot_t_lt q0 t l
  unfold wpY_enter
  dsimp only
  rw [ec]
  refine oy_allowed E hok H ?_
  refine And.intro hin (nm_e (And.intro hin ?_))
  rw [pk_us]
  by_cases h0 : ot_K (ot_g b q0 t l) = 0
  · have een : ot_en 100 b q0 t l = (nI (ot_w q0 t l 0 (l.length / 4)), -4, nI (ot_w q0 t l 0 (l.length / 4)), 1) := by unfold ot_en; rw [if_pos h0]
    rw [een] at K
    refine br_t h0 ?_
    unfold wY_enter_24
    refine oy_won (s := 0) E hok H (by decide) ?_
    refine oy_turn E hok H (fun _ => ?_) (fun z => absurd h0 z)
    refine And.intro (by decide) (br_t (by decide) ?_)
    refine br_f (by decide) (And.intro hin ?_)
    rw [ec]
    refine nm_e (br_f (by decide) (And.intro hin ?_))
    rw [ec]
    exact nm_e (br_f (by decide) (And.intro hin (nm_e K)))
  · have een : ot_en 100 b q0 t l = ot_in 100 (ot_t q0 t l) := by unfold ot_en; rw [if_neg h0]
    rw [een] at K
    refine br_f h0 ?_
    unfold wY_enter_24
    refine oy_won (s := 0) E hok H (by decide) ?_
    refine oy_turn E hok H (fun z => absurd z h0) (fun _ => ?_)
    have e3 : nI (ot_t q0 t l) - nI (ot_t q0 t l) / 2 * 2 = nI (ot_t q0 t l % 2) := pk_rem (d := 2) (by omega) (by decide) (by decide)
    refine And.intro (by decide) ?_
    rw [e3]
    by_cases hT : ot_t q0 t l % 2 = 0
    · have ein : ot_in 100 (ot_t q0 t l) = (-1, -4, 100, 0) := by unfold ot_in; rw [if_pos hT]
      rw [ein] at K
      refine br_t (by rw [hT]; rfl) (br_t rfl (br_f (by decide) (And.intro hin ?_)))
      rw [ec]
      refine nm_e (br_t rfl (And.intro hin ?_))
      rw [ec]
      exact nm_e (br_t rfl (And.intro hin (nm_e K)))
    · have ein : ot_in 100 (ot_t q0 t l) = (100, -4, 100, 0) := by unfold ot_in; rw [if_neg hT]
      rw [ein] at K
      refine br_f (nI_ne0 (by omega) (by omega)) (br_t rfl (br_t rfl (And.intro hin ?_)))
      rw [ec]
      refine nm_e (br_t rfl (And.intro hin ?_))
      rw [ec]
      exact nm_e (br_t rfl (And.intro hin (nm_e K)))
theorem oy_leave (E : ot_E b q0 e) {c : Nat} (hok : ot_ok b q0 t (c :: l)) (H : ot_Y b q0 t l yf yn yh yy yr) {d : Nat} (hd : d + 1 < 13) {a a' : ot_A} (v1 : yv (d + 1) = a'.1) (s1 : ys (d + 1) = a'.2.2.1) (w1 : yw (d + 1) = a'.2.2.2)
    (v0 : yv d = a.1) (s0 : ys d = a.2.2.1) (w0 : yw d = a.2.2.2) {post : SY → Prop}
    (K : post (yo, yf, t, yn, yh, yb, yy, yr, yu, upd yv d (ot_st (ot_t q0 t l) a a' c).1, upd ys d (ot_st (ot_t q0 t l) a a' c).2.2.1, upd yw d (ot_st (ot_t q0 t l) a a' c).2.2.2)) :
    wpY_leave post (yo, yf, t, yn, yh, yb, yy, yr, yu, yv, ys, yw) (nI (d + 1)) := by
  have h0 : ¬ ot_K (ot_g b q0 t l) = 0 := fun z => by
    have := (ot_K_0 _).mp z c hok.2.1
    rw [hok.2.2] at this
    cases this
  have hin1 : vp_in (nI (d + 1)) 13 := vp_in_nI hd (by decide)
  have hin : vp_in (nI d) 13 := vp_in_nI (by omega) (by decide)
  have ec : (nI d).toNatClampNeg = d := nI_clamp (by omega)
  have ec1 : (nI (d + 1)).toNatClampNeg = d + 1 := nI_clamp (by omega)
  have em : nI (d + 1) - 1 = nI d := nI_pred d
  have htl := ot_t_lt q0 t l
  have e3 : nI (ot_t q0 t l) - nI (ot_t q0 t l) / 2 * 2 = nI (ot_t q0 t l % 2) := pk_rem (d := 2) (by omega) (by decide) (by decide)
  have tail : ∀ v : Int32, v = (ot_st (ot_t q0 t l) a a' c).1 → wY_leave_95 post (nI (d + 1)) v (nI d) yo yf t yn yh yb yy yr yu yv ys yw := by
    intro v hv
    subst hv
    refine And.intro hin ?_
    rw [em, ec, ec1, s0, s1]
    refine nm_e (And.intro hin1 (And.intro hin ?_))
    have last : ∀ s : Int32, s = (ot_st (ot_t q0 t l) a a' c).2.2.1 → wY_leave_137 post (nI (d + 1)) s (nI d) yo yf t yn yh yb yy yr yu (upd yv d (ot_st (ot_t q0 t l) a a' c).1) ys yw := by
      intro s hs
      subst hs
      refine And.intro hin ?_
      rw [em, ec, ec1, w0, w1]
      exact nm_e (And.intro hin (And.intro hin1 (And.intro hin (nm_e K))))
    by_cases hs : a'.2.2.1 < a.2.2.1
    · exact br_f (ot_nle hs) (And.intro hin1 (last _ (if_pos hs).symm))
    · exact br_t (Int32.not_lt.mp hs) (And.intro hin (last _ (if_neg hs).symm))
  have fin0 : ot_be (ot_t q0 t l) a'.1 a.1 = false → wY_leave_66 post (nI (d + 1)) 0 yo yf t yn yh yb yy yr yu yv ys yw := by
    intro hb
    refine br_t rfl ?_
    rw [em, ec, v0]
    exact And.intro hin (tail _ (if_neg (by rw [hb]; decide)).symm)
  have fin1 : ot_be (ot_t q0 t l) a'.1 a.1 = true → wY_leave_66 post (nI (d + 1)) 1 yo yf t yn yh yb yy yr yu yv ys yw := by
    intro hb
    refine br_f (by decide) ?_
    rw [em, ec1, v1]
    exact And.intro hin1 (tail _ (if_pos hb).symm)
  unfold wpY_leave
  dsimp only
  refine oy_turn E hok.1 H (fun z => absurd z h0) (fun _ => ?_)
  refine And.intro (by decide) ?_
  rw [e3]
  by_cases hT : ot_t q0 t l % 2 = 0
  · refine br_t (by rw [hT]; rfl) (br_f (by decide) ?_)
    rw [em, ec, ec1, v0, v1]
    refine And.intro hin1 (And.intro hin ?_)
    by_cases hv : a'.1 ≤ a.1
    · refine br_t hv (fin0 ?_)
      unfold ot_be
      rw [if_pos hT]
      exact decide_eq_false (Int32.not_lt.mpr hv)
    · refine br_f hv (fin1 ?_)
      unfold ot_be
      rw [if_pos hT]
      exact decide_eq_true (Int32.not_le.mp hv)
  · refine br_f (nI_ne0 (by omega) (by omega)) (br_t rfl ?_)
    rw [em, ec, ec1, v0, v1]
    refine And.intro hin1 (And.intro hin ?_)
    by_cases hv : a.1 ≤ a'.1
    · refine br_t hv (fin0 ?_)
      unfold ot_be
      rw [if_neg hT]
      exact decide_eq_false (Int32.not_lt.mpr hv)
    · refine br_f hv (fin1 ?_)
      unfold ot_be
      rw [if_neg hT]
      exact decide_eq_true (Int32.not_le.mp hv)
end
/-! the reference's search by steps: the depth stands beside the state -/
def oy_R (b : Nat → Nat) (q0 : Nat) (t yo yf : Int32) (yb : Nat → Int32) (B0 : Nat) (l : List Nat) (fs : List (List Nat × ot_A)) (w : Nat × SY) : Prop :=
  ∃ (yn : Int32) (yh yy yr yu yv yc ys yw : Nat → Int32), w.2 = (yo, yf, t, yn, yh, yb, yy, yr, yu, yv, ys, yw) ∧ ot_Y b q0 t l yf yn yh yy yr ∧ ot_F 0 yu yv yc ys yw fs ∧ l.length + 1 = B0 + fs.length ∧ fs.length = w.1 + 1
def oy_V (post : SY → Prop) (r : Nat) (w : Nat × SY) : Prop := match w.2 with
  | (yo, yf, yt, yn, yh, yb, yy, yr, yu, yv, ys, yw) => wY_search_7 post (r + 1) (nI w.1) yo yf yt yn yh yb yy yr yu yv ys yw
section
variable {b : Nat → Nat} {q0 : Nat} {t : Int32} {e : Nat} {yo yf : Int32} {yb : Nat → Int32}
theorem oy_scan {post : SY → Prop} {J : Int32 → Int32 → Int32 → Int32 → Int32 → (Nat → Int32) → (Nat → Int32) → (Nat → Int32) → (Nat → Int32) → (Nat → Int32) → (Nat → Int32) → (Nat → Int32) → (Nat → Int32) → Prop}
    {d : Nat} (hd : d < 13) {P : Nat → Bool} {c : Nat} {cs : List Nat} (hb : ot_bl P = c :: cs) {yn : Int32} {yh yy yr yu yv ys yw : Nat → Int32} (hu : yu d = ot_K P)
    (K : ∀ n, wY_search_22 post J (nI d) yo yf t yn yh yb yy yr yu yv ys yw (n + 1) (nI c)) : ∃ n, wY_search_22 post J (nI d) yo yf t yn yh yb yy yr yu yv ys yw n 0 := by
  obtain ⟨h1, h2, h3, _⟩ := ot_bl_cons hb
  have key : ∀ k j, j + k = c → wY_search_22 post J (nI d) yo yf t yn yh yb yy yr yu yv ys yw (k + 1) (nI j) := by
    intro k
    induction k with
    | zero =>
      intro j hj
      have : j = c := by omega
      rw [this]; exact K 0
    | succ k ih =>
      intro j hj
      refine And.intro (vp_in_nI hd (by decide)) ?_
      rw [nI_clamp (by omega), hu, ot_K_bit P (by omega), if_neg (by rw [h3 j (by omega)]; decide)]
      exact br_t rfl (nm_r (nI_1 _) (ih (j + 1) (by omega)))
  exact ⟨c + 1, key c 0 (by omega)⟩
theorem oy_S1 (E : ot_E b q0 e) (post : SY → Prop) (B0 : Nat) (r : Nat) (l : List Nat) (c : Nat) (cs : List Nat) (a : ot_A) (fs : List (List Nat × ot_A)) (w : Nat × SY) (_ : r < 1000000) (_ : ot_ok b q0 t l) (hc : ot_ok b q0 t (c :: l))
    (h : oy_R b q0 t yo yf yb B0 l ((c :: cs, a) :: fs) w)
    (K : ∀ w', oy_R b q0 t yo yf yb B0 (c :: l) ((ot_bl (ot_g b q0 t (c :: l)), ot_en 100 b q0 t (c :: l)) :: (cs, a) :: fs) w' → oy_V post r w') : oy_V post (r + 1) w := by
  obtain ⟨d, u⟩ := w
  obtain ⟨yn, yh, yy, yr, yu, yv, yc, ys, yw, hu, H, F, hlen, hd⟩ := h
  cases hu
  have hn : l.length + 1 ≤ 12 := ot_E_len E hc
  have hd' : fs.length = d := by rw [List.length_cons] at hd; exact Nat.succ.inj hd
  rw [List.length_cons] at hlen
  obtain ⟨⟨⟨P, hP1, hP2⟩, _⟩, _⟩ := id F
  rw [Nat.zero_add, hd'] at hP1
  have ec : (nI d).toNatClampNeg = d := nI_clamp (by omega)
  have hin : vp_in (nI d) 13 := vp_in_nI (by omega) (by decide)
  have hbc := ot_bl_cons hP2
  have hne : ¬ ot_K P = 0 := fun z => by
    have := (ot_K_0 _).mp z c hbc.1
    rw [hbc.2.1] at this
    cases this
  have hF : ot_F 0 (upd yu d (ot_K P &&& (((1 : Int32) <<< (nI c &&& 31)) ^^^ (-1)))) yv yc ys yw ((cs, a) :: fs) := by
    refine ot_F_take (by omega) F (fun P' hP' => ?_)
    rw [← hP1, hP', ot_1 c hc.2.1, ot_K_andn]
  show wY_search_7 post (r + 1 + 1) (nI d) yo yf t yn yh yb yy yr yu yv ys yw
  refine br_f (nI_pos (by omega)) (And.intro hin ?_)
  rw [ec, hP1]
  refine br_f hne (oy_scan (by omega) hP2 hP1 (fun n => ?_))
  refine And.intro hin ?_
  rw [ec, hP1, ot_K_bit P hbc.1, if_pos hbc.2.1]
  refine br_f (by decide) (And.intro hin (And.intro hin (nm_e ?_)))
  refine oy_lay E hc H (fun yn' yh' yy' yr' H' => ?_)
  refine nm_r (nI_1 _) ?_
  refine oy_enter E hc H' (by omega) ?_
  have := K (d + 1, (yo, yf, t, yn', yh', yb, yy', yr', upd (upd yu d (ot_K P &&& (((1 : Int32) <<< (nI c &&& 31)) ^^^ (-1)))) (d + 1) (ot_K (ot_g b q0 t (c :: l))), upd yv (d + 1) (ot_en 100 b q0 t (c :: l)).1, upd ys (d + 1) (ot_en 100 b q0 t (c :: l)).2.2.1, upd yw (d + 1) (ot_en 100 b q0 t (c :: l)).2.2.2))
    ⟨yn', yh', yy', yr', _, _, upd yc (d + 1) (ot_en 100 b q0 t (c :: l)).2.1, _, _, rfl, H', ot_F_new (by simp only [List.length_cons]; omega) hF ⟨_, rfl, rfl⟩ rfl rfl rfl rfl, by simp only [List.length_cons]; omega, by simp only [List.length_cons]; omega⟩
  exact this
theorem oy_S2 (E : ot_E b q0 e) (post : SY → Prop) (B0 : Nat) (r : Nat) (l : List Nat) (c : Nat) (cs : List Nat) (a a' : ot_A) (fs : List (List Nat × ot_A)) (w : Nat × SY) (_ : r < 1000000) (hc : ot_ok b q0 t (c :: l))
    (h : oy_R b q0 t yo yf yb B0 (c :: l) (([], a') :: (cs, a) :: fs) w)
    (K : ∀ w', oy_R b q0 t yo yf yb B0 l ((cs, ot_st (ot_t q0 t l) a a' c) :: fs) w' → oy_V post r w') : oy_V post (r + 1) w := by
  obtain ⟨d, u⟩ := w
  obtain ⟨yn, yh, yy, yr, yu, yv, yc, ys, yw, hu, H, F, hlen, hd⟩ := h
  cases hu
  have hn : l.length + 1 ≤ 12 := ot_E_len E hc
  have hd' : d = fs.length + 1 := by rw [List.length_cons, List.length_cons] at hd; exact (Nat.succ.inj hd).symm
  subst hd'
  rw [List.length_cons, List.length_cons, List.length_cons] at hlen
  obtain ⟨⟨⟨P, hP1, hP2⟩, hv1, hc1, hs1, hw1⟩, F2⟩ := id F
  obtain ⟨⟨hU0, hv0, hc0, hs0, hw0⟩, F3⟩ := id F2
  rw [Nat.zero_add, List.length_cons] at hP1 hv1 hs1 hw1
  rw [Nat.zero_add] at hv0 hs0 hw0
  have ec : (nI (fs.length + 1)).toNatClampNeg = fs.length + 1 := nI_clamp (by omega)
  have hin : vp_in (nI (fs.length + 1)) 13 := vp_in_nI (by omega) (by decide)
  have hz : ot_K P = 0 := (ot_K_0 _).mpr (ot_bl_nil.mp hP2)
  show wY_search_7 post (r + 1 + 1) (nI (fs.length + 1)) yo yf t yn yh yb yy yr yu yv ys yw
  refine br_f (nI_pos (by omega)) (And.intro hin ?_)
  rw [ec, hP1]
  refine br_t hz (br_f (nI_nle (by omega) (by omega)) ?_)
  refine oy_back E hc H (fun yh' H' _ => ?_)
  refine oy_leave E hc H' (by omega) hv1 hs1 hw1 hv0 hs0 hw0 ?_
  refine nm_r (pk_m1 _) ?_
  have := K (fs.length, (yo, yf, t, nI l.length, yh', yb, yy, yr, yu, upd yv fs.length (ot_st (ot_t q0 t l) a a' c).1, upd ys fs.length (ot_st (ot_t q0 t l) a a' c).2.2.1, upd yw fs.length (ot_st (ot_t q0 t l) a a' c).2.2.2))
    ⟨nI l.length, yh', yy, yr, yu, _, upd yc fs.length (ot_st (ot_t q0 t l) a a' c).2.1, _, _, rfl, H', ot_F_mod (Nat.zero_add _).symm F2, by simp only [List.length_cons]; omega, rfl⟩
  exact this
theorem oy_S3 (E : ot_E b q0 e) (post : SY → Prop) (l : List Nat) (a : ot_A) (w : Nat × SY) (h : oy_R b q0 t yo yf yb l.length l [([], a)] w) (K : post w.2) : oy_V post 1 w := by
  obtain ⟨d, u⟩ := w
  obtain ⟨yn, yh, yy, yr, yu, yv, yc, ys, yw, hu, H, F, hlen, hd⟩ := h
  cases hu
  have hd' : d = 0 := by
    have : (1 : Nat) = d + 1 := hd
    omega
  subst hd'
  obtain ⟨⟨⟨P, hP1, hP2⟩, _⟩, _⟩ := F
  have hz : ot_K P = 0 := (ot_K_0 _).mpr (ot_bl_nil.mp hP2)
  have ec : (nI 0).toNatClampNeg = 0 := nI_clamp (by omega)
  have h0 : yu 0 = ot_K P := hP1
  show wY_search_7 post (1 + 1) (nI 0) yo yf t yn yh yb yy yr yu yv ys yw
  refine br_f (nI_pos (by omega)) (And.intro (vp_in_nI (by omega) (by decide)) ?_)
  rw [ec, h0]
  refine br_t hz (br_t (nI_le (b := 0) (Nat.le_refl _) (by decide)) (nm_e ?_))
  exact br_t (by decide) K
theorem oy_search (E : ot_E b q0 e) {l : List Nat} (hok : ot_ok b q0 t l) {yn : Int32} {yh yy yr yu yv ys yw : Nat → Int32} (H : ot_Y b q0 t l yf yn yh yy yr) {post : SY → Prop}
    (K : ∀ (yh' yy' yr' yu' yv' ys' yw' : Nat → Int32), ot_Y b q0 t l yf (nI l.length) yh' yy' yr' → yv' 0 = (ot_rs 100 b q0 t 12 l).1 → ys' 0 = (ot_rs 100 b q0 t 12 l).2.2.1 → yw' 0 = (ot_rs 100 b q0 t 12 l).2.2.2 →
      post (yo, yf, t, nI l.length, yh', yb, yy', yr', yu', yv', ys', yw')) :
    wpY_search post (yo, yf, t, yn, yh, yb, yy, yr, yu, yv, ys, yw) := by
  have hn := ot_E_len E hok
  unfold wpY_search
  dsimp only
  refine oy_enter (d := 0) E hok H (by decide) ?_
  have hco := ot_co_le E.2.1 E.2.2.1 E.2.2.2.1 12 l hok hn
  have hT := ot_T_12 (12 - l.length) (by omega)
  rw [ot_co] at hco
  have hR : oy_R b q0 t yo yf yb l.length l [(ot_bl (ot_g b q0 t l), ot_en 100 b q0 t l)] (0, (yo, yf, t, yn, yh, yb, yy, yr, upd yu 0 (ot_K (ot_g b q0 t l)), upd yv 0 (ot_en 100 b q0 t l).1, upd ys 0 (ot_en 100 b q0 t l).2.2.1, upd yw 0 (ot_en 100 b q0 t l).2.2.2)) :=
    ⟨_, _, _, _, _, _, upd (fun _ => 0) 0 (ot_en 100 b q0 t l).2.1, _, _, rfl, H, ot_F_new (fs := []) rfl True.intro ⟨_, rfl, rfl⟩ rfl rfl rfl rfl, rfl, rfl⟩
  have main := ot_dfs E.2.1 E.2.2.1 E.2.2.2.1 100 1000000 (oy_V post) (oy_R b q0 t yo yf yb l.length) (oy_S1 E post l.length) (oy_S2 E post l.length) 11 l hok (by omega) (ot_bl (ot_g b q0 t l)) (fun c hc => ot_ok_bl hok hc)
    (ot_en 100 b q0 t l) [] 1 _ (by omega) hR (fun w' hw' => by
      refine oy_S3 E post l _ w' hw' ?_
      obtain ⟨d', u'⟩ := w'
      obtain ⟨yn', yh', yy', yr', yu', yv', yc', ys', yw', hu', H', F', _, _⟩ := hw'
      cases hu'
      have hp' : yn' = nI l.length := H'.2.1
      subst hp'
      obtain ⟨⟨_, h1, h2, h3, h4⟩, _⟩ := F'
      exact K yh' yy' yr' yu' yv' ys' yw' H' h1 h3 h4)
  exact ⟨_, main⟩
end
