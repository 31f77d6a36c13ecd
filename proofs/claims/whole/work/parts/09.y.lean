/-! the reference against the game -/
def ot_Y (b : Nat → Nat) (q0 : Nat) (t : Int32) (l : List Nat) (yf yn : Int32) (yh yy yr : Nat → Int32) : Prop :=
  yf = nI q0 ∧ yn = nI l.length ∧ (∀ c, c < 12 → yh c = nI (ot_h b l c)) ∧ (∀ i, i < l.length → yy i = nI (ot_p l i)) ∧ (∀ i, i < l.length → yr i = nI ((ot_l q0 t l (i / 4) + i % 4) % 4))
theorem nx_or (a b : Nat) : nI a ||| nI b = nI (a ||| b) := by
  apply Int32.toBitVec_inj.1
  show BitVec.ofNat 32 a ||| BitVec.ofNat 32 b = BitVec.ofNat 32 (a ||| b)
  apply BitVec.eq_of_getLsbD_eq
  intro i hi
  simp [hi]
theorem ot_1p : ∀ c, c < 12 → (1 : Int32) <<< (nI c &&& 31) = nI (2 ^ c) := by decide +kernel
theorem ot_Kc {P : Nat → Bool} : ot_K P = 0 ↔ ot_c P 12 = 0 := by rw [ot_K_0, ot_c_0]
theorem ot_sum0 {A B C D : Nat → Bool} : ot_K A + ot_K B + ot_K C + ot_K D = 0 ↔ ot_K A = 0 ∧ ot_K B = 0 ∧ ot_K C = 0 ∧ ot_K D = 0 := by
  have hA := ot_m_4096 A
  have hB := ot_m_4096 B
  have hC := ot_m_4096 C
  have hD := ot_m_4096 D
  unfold ot_K
  rw [nI_add, nI_add, nI_add, ← nI_0, nI_eq (by omega) (by omega), nI_eq (by omega) (by omega), nI_eq (by omega) (by omega), nI_eq (by omega) (by omega), nI_eq (by omega) (by omega)]
  omega
section
variable {b : Nat → Nat} {q0 : Nat} {t : Int32} {e : Nat} {l : List Nat} {yo yf yt yn : Int32} {yh yb yy yr yu yv ys yw : Nat → Int32}
theorem oy_hand {h : Nat → Nat} (hh : ∀ c, c < 12 → yh c = nI (h c)) (hle : ∀ c, c < 12 → h c ≤ 4) {p : Nat} (hp : p ≤ 4) {post : Int32 → Prop} (K : post (ot_K (fun c => h c == p))) :
    wpY_handOf post (yo, yf, yt, yn, yh, yb, yy, yr, yu, yv, ys, yw) (nI p) := by
  have key : ∀ d k, k + d = 12 → wY_handOf_4 post (nI p) yo yf yt yn yh yb yy yr yu yv ys yw (d + 1) (nI (ot_m (fun c => h c == p) k)) (nI k) := by
    intro d
    induction d with
    | zero =>
      intro k hk
      have : k = 12 := by omega
      subst this
      exact br_t (nI_le (a := 12) (by omega) (by omega)) K
    | succ d ih =>
      intro k hk
      have := ih (k + 1) (by omega)
      have hl := hle k (by omega)
      refine br_f (nI_ge (b := 12) (by omega) (by decide)) (And.intro (vp_in_nI (by omega) (by decide)) ?_)
      rw [nI_clamp (by omega), hh k (by omega)]
      by_cases hz : h k = p
      · have em : ot_m (fun c => h c == p) (k + 1) = ot_m (fun c => h c == p) k ||| 2 ^ k := by
          rw [ot_m, if_pos (by rw [hz]; simp)]
        have e1 : nI (ot_m (fun c => h c == p) k) ||| ((1 : Int32) <<< (nI k &&& 31)) = nI (ot_m (fun c => h c == p) (k + 1)) := by
          rw [ot_1p k (by omega), nx_or, em]
        exact br_t (congrArg nI hz) (nm_r e1 (nm_r (nI_1 _) this))
      · have em : ot_m (fun c => h c == p) (k + 1) = ot_m (fun c => h c == p) k := by
          rw [ot_m, if_neg (by simpa using hz)]; simp
        rw [em] at this
        exact br_f (fun z => hz ((nI_eq (by omega) (by omega)).mp z)) (nm_r (nI_1 _) this)
  exact ⟨13, key 12 0 (by omega)⟩
theorem oy_win {f : Nat → Nat} {n s : Nat} (hn : n ≤ 12) (hs : s < n) (hy : ∀ i, i < n → yy i = nI (f i)) (hf : ∀ i, i < n → f i < 12) {post : Int32 → Prop}
    (K : post (nI (ot_tp t f s (min 3 (n - s - 1))))) : wpY_winnerAt post (yo, yf, t, nI n, yh, yb, yy, yr, yu, yv, ys, yw) (nI s) := by
  have key : ∀ d j, j + d = min 3 (n - s - 1) → wY_winnerAt_6 post (nI s) yo yf t (nI n) yh yb yy yr yu yv ys yw (d + 1) (nI (ot_tp t f s j)) (nI (s + j + 1)) := by
    intro d
    induction d with
    | zero =>
      intro j hj
      have hj' : j = min 3 (n - s - 1) := by omega
      have fin : post (nI (ot_tp t f s j)) := by rw [hj']; exact K
      have e4 : nI s + 4 = nI (s + 4) := nI_add s 4
      by_cases h3 : j = 3
      · refine br_t ?_ fin
        rw [h3, e4]
        exact nI_le (by omega) (by omega)
      · refine br_f ?_ (br_t ?_ fin)
        · rw [e4]
          exact nI_ge (by omega) (by omega)
        · exact nI_le (by omega) (by omega)
    | succ d ih =>
      intro j hj
      have hin := ot_tp_in t f s j
      have e4 : nI s + 4 = nI (s + 4) := nI_add s 4
      have h1 : ¬ nI s + 4 ≤ nI (s + j + 1) := by
        rw [e4]
        exact nI_ge (by omega) (by omega)
      have f1 := hf (s + j + 1) (by omega)
      have f2 := hf (ot_tp t f s j) (by omega)
      have e1 : yy (nI (s + j + 1)).toNatClampNeg = nI (f (s + j + 1)) := by rw [nI_clamp (by omega)]; exact hy _ (by omega)
      have e2 : yy (nI (ot_tp t f s j)).toNatClampNeg = nI (f (ot_tp t f s j)) := by rw [nI_clamp (by omega)]; exact hy _ (by omega)
      have d1 : nI (f (s + j + 1)) / 4 = nI (f (s + j + 1) / 4) := pk_div (d := 4) (by omega) (by decide) (by decide)
      have d2 : nI (f (ot_tp t f s j)) / 4 = nI (f (ot_tp t f s j) / 4) := pk_div (d := 4) (by omega) (by decide) (by decide)
      have i1 : vp_in (nI (s + j + 1)) 12 := vp_in_nI (by omega) (by decide)
      have i2 : vp_in (nI (ot_tp t f s j)) 12 := vp_in_nI (by omega) (by decide)
      have this := ih (j + 1) (by omega)
      refine br_f h1 (br_f (nI_ge (by omega) (by omega)) ?_)
      rw [e1, e2]
      refine And.intro i1 (And.intro (by decide) (nm_r d1 (And.intro i2 (And.intro (by decide) (nm_r d2 ?_)))))
      have J0 : ot_b t (f (s + j + 1)) (f (ot_tp t f s j)) = false → wY_winnerAt_85 post (wY_winnerAt_6 post (nI s) yo yf t (nI n) yh yb yy yr yu yv ys yw (d + 1)) (nI s) (nI (ot_tp t f s j)) (nI (s + j + 1)) 0 yo yf t (nI n) yh yb yy yr yu yv ys yw := by
        intro hb
        have et : ot_tp t f s (j + 1) = ot_tp t f s j := by rw [ot_tp, if_neg (by rw [hb]; decide)]
        rw [et] at this
        exact br_t rfl (nm_r (nI_1 _) this)
      have J1 : ot_b t (f (s + j + 1)) (f (ot_tp t f s j)) = true → wY_winnerAt_85 post (wY_winnerAt_6 post (nI s) yo yf t (nI n) yh yb yy yr yu yv ys yw (d + 1)) (nI s) (nI (ot_tp t f s j)) (nI (s + j + 1)) 1 yo yf t (nI n) yh yb yy yr yu yv ys yw := by
        intro hb
        have et : ot_tp t f s (j + 1) = s + j + 1 := by rw [ot_tp, if_pos hb]
        rw [et] at this
        exact br_f (by decide) (nm_r (nI_1 _) this)
      by_cases hq : f (s + j + 1) / 4 = f (ot_tp t f s j) / 4
      · refine br_t (congrArg nI hq) (And.intro i1 (And.intro i2 ?_))
        by_cases h2 : f (ot_tp t f s j) < f (s + j + 1)
        · refine br_f (nI_ge h2 (by omega)) (J1 ?_)
          unfold ot_b; rw [if_pos hq]; exact decide_eq_true h2
        · refine br_t (nI_le (by omega) (by omega)) (J0 ?_)
          unfold ot_b; rw [if_pos hq]; exact decide_eq_false h2
      · refine br_f (fun z => hq ((nI_eq (by omega) (by omega)).mp z)) ?_
        by_cases h2 : nI (f (s + j + 1) / 4) = t
        · refine br_t h2 (J1 ?_)
          unfold ot_b; rw [if_neg hq]; exact decide_eq_true h2
        · refine br_f h2 (J0 ?_)
          unfold ot_b; rw [if_neg hq]; exact decide_eq_false h2
  unfold wpY_winnerAt
  dsimp only
  refine nm_r (nI_1 _) ⟨min 3 (n - s - 1) + 1, ?_⟩
  exact key _ 0 (by omega)
/-- the winner of a full trick -/
theorem oy_pl (E : ot_E b q0 e) (hok : ot_ok b q0 t l) (H : ot_Y b q0 t l yf yn yh yy yr) {k : Nat} (hk : 4 * (k + 1) ≤ l.length) : yr (nI (ot_tp t (ot_p l) (4 * k) 3)).toNatClampNeg = nI (ot_l q0 t l (k + 1)) := by
  have hin := ot_tp_in t (ot_p l) (4 * k) 3
  have hn := ot_E_len E hok
  rw [nI_clamp (by omega), H.2.2.2.2 _ (by omega), ot_l_next l k hk]
  have e1 : ot_tp t (ot_p l) (4 * k) 3 / 4 = k := by omega
  have e2 : ot_tp t (ot_p l) (4 * k) 3 % 4 = ot_tp t (ot_p l) (4 * k) 3 - 4 * k := by omega
  rw [e1, e2]
theorem oy_turn (E : ot_E b q0 e) (hok : ot_ok b q0 t l) (H : ot_Y b q0 t l yf yn yh yy yr) {post : Int32 → Prop} (K0 : ot_K (ot_g b q0 t l) = 0 → post (-4)) (K1 : ¬ ot_K (ot_g b q0 t l) = 0 → post (nI (ot_t q0 t l))) :
    wpY_turn post (yo, yf, t, yn, yh, yb, yy, yr, yu, yv, ys, yw) := by
  have hn := ot_E_len E hok
  obtain ⟨hf, hp, hh, hy, hr⟩ := id H
  subst hp
  have hle : ∀ c, c < 12 → ot_h b l c ≤ 4 := fun c hc => ot_h_le E.1 l hc
  unfold wpY_turn
  dsimp only
  by_cases h12 : l.length = 12
  · exact br_t (by rw [h12]; rfl) (K0 (ot_full E.2.1 E.2.2.1 E.2.2.2.1 hok (by omega)))
  · refine br_f (fun z => h12 ((nI_eq (b := 12) (by omega) (by decide)).mp z)) ?_
    refine oy_hand (p := 0) hh hle (by decide) ?_
    refine oy_hand (p := 1) hh hle (by decide) ?_
    refine oy_hand (p := 2) hh hle (by decide) ?_
    refine oy_hand (p := 3) hh hle (by decide) ?_
    by_cases h0 : ot_K (ot_g b q0 t l) = 0
    · have hz := ot_end E.2.1 E.2.2.1 l hok (ot_g_0.mp h0)
      exact br_t (ot_sum0.mpr ⟨ot_Kc.mpr (hz 0 (by decide)), ot_Kc.mpr (hz 1 (by decide)), ot_Kc.mpr (hz 2 (by decide)), ot_Kc.mpr (hz 3 (by decide))⟩) (K0 h0)
    · have hne : ¬ ot_K (fun c => ot_h b l c == 0) + ot_K (fun c => ot_h b l c == 1) + ot_K (fun c => ot_h b l c == 2) + ot_K (fun c => ot_h b l c == 3) = 0 := by
        intro z
        obtain ⟨z0, z1, z2, z3⟩ := ot_sum0.mp z
        apply h0
        rw [ot_g_0, ← ot_Kc]
        have htl := ot_t_lt q0 t l
        generalize ot_t q0 t l = T at htl
        rcases (show T = 0 ∨ T = 1 ∨ T = 2 ∨ T = 3 by omega) with rfl | rfl | rfl | rfl
        · exact z0
        · exact z1
        · exact z2
        · exact z3
      have e2 : nI l.length - nI l.length / 4 * 4 = nI (l.length % 4) := pk_rem (d := 4) (by omega) (by decide) (by decide)
      refine br_f hne (And.intro (by decide) ?_)
      rw [e2]
      have K := K1 h0
      by_cases hm : l.length % 4 = 0
      · refine br_t (by rw [hm]; exact nI_le (b := 0) (Nat.le_refl _) (by decide)) ?_
        by_cases hz : l.length = 0
        · have hl : l = [] := List.length_eq_zero_iff.mp hz
          refine br_t (by rw [hz]; rfl) ?_
          have et : ot_t q0 t l = q0 := by
            rw [hl]
            exact Nat.mod_eq_of_lt E.2.1
          rw [et] at K
          rw [hf]; exact K
        · have e3 : nI l.length - 4 = nI (4 * (l.length / 4 - 1)) := by
            have : nI l.length - nI 4 = nI (l.length - 4) := pk_sub (by omega)
            have h4 : l.length - 4 = 4 * (l.length / 4 - 1) := by omega
            rw [h4] at this
            exact this
          refine br_f (nI_ne0 (by omega) (by omega)) ?_
          rw [e3]
          refine oy_win (f := ot_p l) hn (by omega) hy (fun i _ => ot_p_lt hok i) ?_
          have hmin : min 3 (l.length - 4 * (l.length / 4 - 1) - 1) = 3 := by omega
          rw [hmin]
          have hin := ot_tp_in t (ot_p l) (4 * (l.length / 4 - 1)) 3
          refine And.intro (vp_in_nI (by omega) (by decide)) ?_
          have epl := oy_pl E hok H (k := l.length / 4 - 1) (by omega)
          have e5 : l.length / 4 - 1 + 1 = l.length / 4 := by omega
          rw [e5] at epl
          rw [epl]
          have et : ot_t q0 t l = ot_l q0 t l (l.length / 4) := by
            have := ot_l_lt E.2.1 t l (l.length / 4)
            unfold ot_t
            omega
          rw [et] at K
          exact K
      · refine br_f (nI_nle (by omega) (by omega)) ?_
        have e3 : nI l.length - 1 = nI (l.length - 1) := by
          have : nI l.length - nI 1 = nI (l.length - 1) := pk_sub (by omega)
          exact this
        rw [e3]
        have hl := ot_l_lt E.2.1 t l (l.length / 4)
        have e4 : yr (nI (l.length - 1)).toNatClampNeg + 1 = nI ((ot_l q0 t l (l.length / 4) + (l.length % 4 - 1)) % 4 + 1) := by
          have h1 : (l.length - 1) / 4 = l.length / 4 := by omega
          have h2 : (l.length - 1) % 4 = l.length % 4 - 1 := by omega
          rw [nI_clamp (by omega), hr _ (by omega), h1, h2]
          exact nI_1 _
        refine And.intro (vp_in_nI (by omega) (by decide)) (And.intro (by decide) ?_)
        rw [e4]
        have e5 : nI ((ot_l q0 t l (l.length / 4) + (l.length % 4 - 1)) % 4 + 1) - nI ((ot_l q0 t l (l.length / 4) + (l.length % 4 - 1)) % 4 + 1) / 4 * 4 = nI (((ot_l q0 t l (l.length / 4) + (l.length % 4 - 1)) % 4 + 1) % 4) := pk_rem (d := 4) (by omega) (by decide) (by decide)
        rw [e5]
        have et : ((ot_l q0 t l (l.length / 4) + (l.length % 4 - 1)) % 4 + 1) % 4 = ot_t q0 t l := by
          unfold ot_t
          omega
        rw [et]
        exact K
theorem oy_allowed (E : ot_E b q0 e) (hok : ot_ok b q0 t l) (H : ot_Y b q0 t l yf yn yh yy yr) {post : Int32 → Prop} (K : post (ot_K (ot_g b q0 t l))) :
    wpY_allowed post (yo, yf, t, yn, yh, yb, yy, yr, yu, yv, ys, yw) := by
  have hn := ot_E_len E hok
  have htl := ot_t_lt q0 t l
  obtain ⟨hf, hp, hh, hy, hr⟩ := id H
  subst hp
  have hle : ∀ c, c < 12 → ot_h b l c ≤ 4 := fun c hc => ot_h_le E.1 l hc
  have e2 : nI l.length - nI l.length / 4 * 4 = nI (l.length % 4) := pk_rem (d := 4) (by omega) (by decide) (by decide)
  unfold wpY_allowed
  dsimp only
  rw [e2]
  refine oy_turn E hok H (fun h0 => ?_) (fun h0 => ?_)
  · refine br_f (by decide) ?_
    rw [h0] at K
    exact K
  · refine br_t (nI_pos' (by omega)) ?_
    refine oy_hand hh hle (by omega) ?_
    have e3 : nI l.length - nI (l.length % 4) = nI (l.length - l.length % 4) := pk_sub (by omega)
    refine And.intro (by decide) (nm_r e3 (And.intro (by decide) ?_))
    by_cases hm : l.length % 4 = 0
    · refine br_t (by rw [hm]; rfl) (br_t rfl ?_)
      rw [ot_g_m0 hm] at K
      exact K
    · have hlt : l.length - l.length % 4 < l.length := by omega
      have hp := ot_p_lt hok (l.length - l.length % 4)
      have e4 : yy (nI (l.length - l.length % 4)).toNatClampNeg / 4 = nI (ot_p l (l.length - l.length % 4) / 4) := by
        rw [nI_clamp (by omega), hy _ hlt]
        exact pk_div (d := 4) (by omega) (by decide) (by decide)
      have e5 : ot_K (fun c => ot_h b l c == ot_t q0 t l) &&& ((15 : Int32) <<< ((4 * nI (ot_p l (l.length - l.length % 4) / 4)) &&& 31)) = ot_K (ot_f b q0 t l) := by
        have : 4 * nI (ot_p l (l.length - l.length % 4) / 4) = nI (4 * (ot_p l (l.length - l.length % 4) / 4)) := pk_mul 4 _
        rw [this, Nat.mul_comm, ot_15 _ (by omega), ot_K_and]
        rfl
      refine br_f (nI_ne0 (by omega) (by omega)) (And.intro (vp_in_nI (by omega) (by decide)) (And.intro (by decide) ?_))
      rw [e4, e5]
      by_cases hz : ot_K (ot_f b q0 t l) = 0
      · refine br_t hz ?_
        rw [ot_g_z hm hz] at K
        exact K
      · refine br_f hz ?_
        rw [ot_g_f hm hz] at K
        exact K
theorem oy_may (E : ot_E b q0 e) (hok : ot_ok b q0 t l) (H : ot_Y b q0 t l yf yn yh yy yr) {v : Int32} {post : Int32 → Prop} (K1 : ∀ c, c < 12 → v = nI c → ot_g b q0 t l c = true → post 1)
    (K0 : (∀ c, c < 12 → v = nI c → ot_g b q0 t l c = false) → post 0) : wpY_isAllowed post (yo, yf, t, yn, yh, yb, yy, yr, yu, yv, ys, yw) v := by
  unfold wpY_isAllowed
  dsimp only
  rcases pk_ix v (n := 12) (by decide) with h | h | ⟨j, hj, rfl⟩
  · exact br_t h (K0 (fun c hc z => absurd h (by rw [z]; exact nI_pos (by omega))))
  · have h0 : ¬ v < 0 := fun z => by
      rw [Int32.lt_iff_toInt_lt] at z
      rw [Int32.le_iff_toInt_le, nI_toInt (by decide)] at h
      have : (0 : Int32).toInt = 0 := by decide
      omega
    exact br_f h0 (br_t (ot_ge (n := 11) (by decide) h) (K0 (fun c hc z => absurd h (by rw [z]; exact nI_ge hc (by decide)))))
  · refine br_f (nI_pos (by omega)) (br_f (nI_nlt (a := 11) (by omega) (by decide)) ?_)
    refine oy_allowed E hok H ?_
    show ((ot_K (ot_g b q0 t l) >>> (nI j &&& 31)) &&& 1 = 1 → post 1) ∧ (¬ (ot_K (ot_g b q0 t l) >>> (nI j &&& 31)) &&& 1 = 1 → post 0)
    rw [ot_K_bit _ hj]
    by_cases hg : ot_g b q0 t l j = true
    · rw [if_pos hg]; exact br_t (by rfl) (K1 j hj rfl hg)
    · rw [if_neg hg]
      refine br_f (by decide) (K0 (fun c hc z => ?_))
      have : j = c := (nI_eq (by omega) (by omega)).mp z
      rw [← this]; simpa using hg
end
