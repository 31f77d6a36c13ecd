/-! the component's search by steps -/
def ox_R (b : Nat → Nat) (q0 : Nat) (t xo : Int32) (xd : Nat → Int32) (B0 : Nat) (l : List Nat) (fs : List (List Nat × ot_A)) (u : SX) : Prop :=
  ∃ (xg xp : Int32) (xy xl xu xv xc xs xw : Nat → Int32), u = (xg, xo, t, xp, xd, xy, xl, xu, xv, xc, xs, xw) ∧ ot_X b q0 t l xg xp xd xy xl ∧ ot_F B0 xu xv xc xs xw fs ∧ l.length + 1 = B0 + fs.length
def ox_V (post : SX → Prop) (B0 : Nat) (r : Nat) (u : SX) : Prop := match u with
  | (xg, xo, xt, xp, xd, xy, xl, xu, xv, xc, xs, xw) => wX_explore_11 post (nI B0) (r + 1) (nI (1000000 - r)) xg xo xt xp xd xy xl xu xv xc xs xw
section
variable {b : Nat → Nat} {q0 : Nat} {t : Int32} {e : Nat} {xo : Int32} {xd : Nat → Int32}
theorem ot_c_m4 : ∀ c, c < 12 → ¬ nI c = -4 := by decide
theorem ox_S1 (E : ot_E b q0 e) (post : SX → Prop) (B0 : Nat) (r : Nat) (l : List Nat) (c : Nat) (cs : List Nat) (a : ot_A) (fs : List (List Nat × ot_A)) (u : SX) (hr : r < 1000000) (hok : ot_ok b q0 t l) (hc : ot_ok b q0 t (c :: l))
    (h : ox_R b q0 t xo xd B0 l ((c :: cs, a) :: fs) u)
    (K : ∀ u', ox_R b q0 t xo xd B0 (c :: l) ((ot_bl (ot_g b q0 t (c :: l)), ot_en 4 b q0 t (c :: l)) :: (cs, a) :: fs) u' → ox_V post B0 r u') : ox_V post B0 (r + 1) u := by
  obtain ⟨xg, xp, xy, xl, xu, xv, xc, xs, xw, rfl, H, F, hlen⟩ := h
  have hn : l.length + 1 ≤ 12 := ot_E_len E hc
  rw [List.length_cons] at hlen
  have hk : xp.toNatClampNeg = B0 + fs.length := by rw [H.2.1, nI_clamp (by omega)]; omega
  have hin : vp_in xp 13 := by rw [H.2.1]; exact vp_in_nI (by omega) (by decide)
  obtain ⟨⟨⟨P, hP1, hP2⟩, _⟩, _⟩ := id F
  have eu : xu xp.toNatClampNeg = ot_K P := by rw [hk]; exact hP1
  have es : nI (1000000 - (r + 1)) + 1 = nI (1000000 - r) := by rw [nI_1]; exact congrArg nI (by omega)
  show wX_explore_11 post (nI B0) (r + 1 + 1) (nI (1000000 - (r + 1))) xg xo t xp xd xy xl xu xv xc xs xw
  refine br_f (nI_ge (b := 1000000) (by omega) (by decide)) (And.intro hin ?_)
  have hF : ∀ v : Int32, v = xu xp.toNatClampNeg &&& (((1 : Int32) <<< (nI c &&& 31)) ^^^ (-1)) → ot_F B0 (upd xu xp.toNatClampNeg v) xv xc xs xw ((cs, a) :: fs) := by
    intro v hv
    refine ot_F_take hk F (fun P' hP' => ?_)
    rw [hv, hP', ot_1 c hc.2.1, ot_K_andn]
  generalize xu xp.toNatClampNeg = U0 at eu hF ⊢
  subst eu
  refine ox_low (fun z => ?_) (fun c' cs' hb => ?_)
  · rw [z] at hP2; cases hP2
  · obtain ⟨h1, h2⟩ := List.cons.inj (hP2.symm.trans hb)
    subst h1
    refine br_f (ot_c_m4 c hc.2.1) (And.intro hin (And.intro hin (nm_e ?_)))
    refine ox_put E hc H (fun xg' xp' xy' xl' H' => ?_)
    refine ox_enter E hc H' ?_
    refine nm_r es (K _ ⟨xg', xp', xy', xl', _, _, _, _, _, rfl, H', ?_, ?_⟩)
    · exact ot_F_new (by simp only [List.length_cons]; omega) (hF _ rfl) ⟨_, rfl, rfl⟩ rfl rfl rfl rfl
    · simp only [List.length_cons]; omega
theorem ox_S2 (E : ot_E b q0 e) (post : SX → Prop) (B0 : Nat) (r : Nat) (l : List Nat) (c : Nat) (cs : List Nat) (a a' : ot_A) (fs : List (List Nat × ot_A)) (u : SX) (hr : r < 1000000) (hc : ot_ok b q0 t (c :: l))
    (h : ox_R b q0 t xo xd B0 (c :: l) (([], a') :: (cs, a) :: fs) u)
    (K : ∀ u', ox_R b q0 t xo xd B0 l ((cs, ot_st (ot_t q0 t l) a a' c) :: fs) u' → ox_V post B0 r u') : ox_V post B0 (r + 1) u := by
  obtain ⟨xg, xp, xy, xl, xu, xv, xc, xs, xw, rfl, H, F, hlen⟩ := h
  have hn : l.length + 1 ≤ 12 := ot_E_len E hc
  have hL : (c :: l).length = l.length + 1 := rfl
  rw [List.length_cons, List.length_cons, List.length_cons] at hlen
  have hB : B0 + fs.length = l.length := by omega
  have hxp : xp = nI (l.length + 1) := H.2.1
  have hk : xp.toNatClampNeg = l.length + 1 := by rw [hxp, nI_clamp (by omega)]
  have hin : vp_in xp 13 := by rw [hxp]; exact vp_in_nI (by omega) (by decide)
  obtain ⟨⟨⟨P, hP1, hP2⟩, hv1, hc1, hs1, hw1⟩, F2⟩ := id F
  obtain ⟨⟨hU0, hv0, hc0, hs0, hw0⟩, F3⟩ := id F2
  have hB1 : B0 + ((cs, a) :: fs).length = l.length + 1 := by rw [List.length_cons]; omega
  rw [hB1] at hP1 hv1 hs1 hw1
  rw [hB] at hv0 hc0 hs0 hw0
  have eu : xu xp.toNatClampNeg = ot_K P := by rw [hk]; exact hP1
  have es : nI (1000000 - (r + 1)) + 1 = nI (1000000 - r) := by rw [nI_1]; exact congrArg nI (by omega)
  show wX_explore_11 post (nI B0) (r + 1 + 1) (nI (1000000 - (r + 1))) xg xo t xp xd xy xl xu xv xc xs xw
  refine br_f (nI_ge (b := 1000000) (by omega) (by decide)) (And.intro hin ?_)
  rw [eu]
  refine ox_low (fun _ => ?_) (fun c' cs' hb => ?_)
  · refine br_t rfl (br_f ?_ ?_)
    · rw [hxp]; exact nI_ge (by omega) (by omega)
    · refine ox_leave E hc H hv1 hs1 hw1 hv0 hc0 hs0 hw0 (fun xg' H' => ?_)
      refine nm_r es (K _ ⟨xg', _, xy, xl, _, _, _, _, _, rfl, H', ?_, ?_⟩)
      · exact ot_F_mod hB.symm F2
      · simp only [List.length_cons]; omega
  · rw [hb] at hP2; cases hP2
theorem ox_S3 (E : ot_E b q0 e) (post : SX → Prop) (r : Nat) (l : List Nat) (a : ot_A) (u : SX) (hr0 : 0 < r) (hr : r ≤ 1000000) (hok : ot_ok b q0 t l) (h : ox_R b q0 t xo xd l.length l [([], a)] u) (K : post u) : ox_V post l.length r u := by
  obtain ⟨xg, xp, xy, xl, xu, xv, xc, xs, xw, rfl, H, F, hlen⟩ := h
  have hn := ot_E_len E hok
  have hk : xp.toNatClampNeg = l.length := by rw [H.2.1, nI_clamp (by omega)]
  have hin : vp_in xp 13 := by rw [H.2.1]; exact vp_in_nI (by omega) (by decide)
  obtain ⟨⟨⟨P, hP1, hP2⟩, _⟩, _⟩ := F
  have eu : xu xp.toNatClampNeg = ot_K P := by rw [hk]; exact hP1
  show wX_explore_11 post (nI l.length) (r + 1) (nI (1000000 - r)) xg xo t xp xd xy xl xu xv xc xs xw
  refine br_f (nI_ge (b := 1000000) (by omega) (by decide)) (And.intro hin ?_)
  rw [eu]
  refine ox_low (fun _ => ?_) (fun c' cs' hb => ?_)
  · refine br_t rfl (br_t ?_ K)
    rw [H.2.1]; exact nI_le (Nat.le_refl _) (by omega)
  · rw [hb] at hP2; cases hP2
theorem ox_explore (E : ot_E b q0 e) {l : List Nat} (hok : ot_ok b q0 t l) {xg xp : Int32} {xy xl xu xv xc xs xw : Nat → Int32} (H : ot_X b q0 t l xg xp xd xy xl) {post : SX → Prop}
    (K : ∀ (xg' : Int32) (xy' xl' xu' xv' xc' xs' xw' : Nat → Int32), ot_X b q0 t l xg' (nI l.length) xd xy' xl' → xv' l.length = (ot_rs 4 b q0 t 12 l).1 → xc' l.length = (ot_rs 4 b q0 t 12 l).2.1 →
      xs' l.length = (ot_rs 4 b q0 t 12 l).2.2.1 → xw' l.length = (ot_rs 4 b q0 t 12 l).2.2.2 → post (xg', xo, t, nI l.length, xd, xy', xl', xu', xv', xc', xs', xw')) :
    wpX_explore post (xg, xo, t, xp, xd, xy, xl, xu, xv, xc, xs, xw) := by
  have hn := ot_E_len E hok
  have hp : xp = nI l.length := H.2.1
  subst hp
  unfold wpX_explore
  dsimp only
  refine ox_enter E hok H ?_
  have hco := ot_co_le E.2.1 E.2.2.1 E.2.2.2.1 12 l hok hn
  have hT := ot_T_12 (12 - l.length) (by omega)
  rw [ot_co] at hco
  have hR : ox_R b q0 t xo xd l.length l [(ot_bl (ot_g b q0 t l), ot_en 4 b q0 t l)] (xg, xo, t, nI l.length, xd, xy, xl, upd xu l.length (ot_K (ot_g b q0 t l)), upd xv l.length (ot_en 4 b q0 t l).1, upd xc l.length (ot_en 4 b q0 t l).2.1, upd xs l.length (ot_en 4 b q0 t l).2.2.1, upd xw l.length (ot_en 4 b q0 t l).2.2.2) :=
    ⟨_, _, _, _, _, _, _, _, _, rfl, H, ot_F_new (fs := []) rfl True.intro ⟨_, rfl, rfl⟩ rfl rfl rfl rfl, rfl⟩
  have main := ot_dfs E.2.1 E.2.2.1 E.2.2.2.1 4 1000000 (ox_V post l.length) (ox_R b q0 t xo xd l.length) (ox_S1 E post l.length) (ox_S2 E post l.length) 11 l hok (by omega) (ot_bl (ot_g b q0 t l)) (fun c hc => ot_ok_bl hok hc)
    (ot_en 4 b q0 t l) [] (1000000 - ((ot_bl (ot_g b q0 t l)).map (fun c => ot_co b q0 t 11 (c :: l) + 2)).sum) _ (by omega) hR (fun u' hu' => by
      refine ox_S3 E post _ l _ u' (by omega) (by omega) hok hu' ?_
      obtain ⟨xg', xp', xy', xl', xu', xv', xc', xs', xw', rfl, H', F', _⟩ := hu'
      have hp' : xp' = nI l.length := H'.2.1
      subst hp'
      obtain ⟨⟨_, h1, h2, h3, h4⟩, _⟩ := F'
      exact K xg' xy' xl' xu' xv' xc' xs' xw' H' h1 h2 h3 h4)
  have e1 : 1000000 - ((ot_bl (ot_g b q0 t l)).map (fun c => ot_co b q0 t 11 (c :: l) + 2)).sum + ((ot_bl (ot_g b q0 t l)).map (fun c => ot_co b q0 t 11 (c :: l) + 2)).sum = 1000000 := by omega
  rw [e1] at main
  exact ⟨1000000 + 1, main⟩
end
