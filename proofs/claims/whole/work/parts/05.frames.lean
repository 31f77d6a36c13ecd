/-! rows of a search in five arrays (which cards wait, value, choice, least, ways): the newest row first, at base + the number of the others -/
def ot_fr1 (U V C L W : Nat → Int32) (j : Nat) (f : List Nat × ot_A) : Prop :=
  (∃ P, U j = ot_K P ∧ ot_bl P = f.1) ∧ V j = f.2.1 ∧ C j = f.2.2.1 ∧ L j = f.2.2.2.1 ∧ W j = f.2.2.2.2
def ot_F (B : Nat) (U V C L W : Nat → Int32) : List (List Nat × ot_A) → Prop
  | [] => True
  | f :: fs => ot_fr1 U V C L W (B + fs.length) f ∧ ot_F B U V C L W fs
theorem ot_F_ext {B : Nat} {U V C L W U' V' C' L' W' : Nat → Int32} : ∀ {fs : List (List Nat × ot_A)}, (∀ i, i < B + fs.length → U' i = U i ∧ V' i = V i ∧ C' i = C i ∧ L' i = L i ∧ W' i = W i) →
    ot_F B U V C L W fs → ot_F B U' V' C' L' W' fs := by
  intro fs
  induction fs with
  | nil => intro _ _; exact True.intro
  | cons f fs ih =>
    intro h hF
    refine ⟨?_, ih (fun i hi => h i (by simp only [List.length_cons]; omega)) hF.2⟩
    obtain ⟨h1, h2, h3, h4, h5⟩ := h (B + fs.length) (by simp only [List.length_cons]; omega)
    unfold ot_fr1
    rw [h1, h2, h3, h4, h5]
    exact hF.1
/-- a store into one row at or above the newest leaves the others -/
theorem ot_u_ne {f : Nat → Int32} {k i : Nat} {x : Int32} (h : i < k) : upd f k x i = f i := pk_un (by omega)
/-- the newest row gets new contents -/
theorem ot_F_new {B : Nat} {U V C L W : Nat → Int32} {fs : List (List Nat × ot_A)} {u v c l w : Int32} {k : Nat} (hk : k = B + fs.length) (h : ot_F B U V C L W fs) {f : List Nat × ot_A}
    (hu : ∃ P, u = ot_K P ∧ ot_bl P = f.1) (hv : v = f.2.1) (hc : c = f.2.2.1) (hl : l = f.2.2.2.1) (hw : w = f.2.2.2.2) :
    ot_F B (upd U k u) (upd V k v) (upd C k c) (upd L k l) (upd W k w) (f :: fs) := by
  subst hk
  refine ⟨?_, ot_F_ext (fun i hi => ⟨ot_u_ne hi, ot_u_ne hi, ot_u_ne hi, ot_u_ne hi, ot_u_ne hi⟩) h⟩
  unfold ot_fr1
  rw [pk_us, pk_us, pk_us, pk_us, pk_us]
  exact ⟨hu, hv, hc, hl, hw⟩
/-- a card is taken out of the newest row's waiting cards -/
theorem ot_F_take {B : Nat} {U V C L W : Nat → Int32} {fs : List (List Nat × ot_A)} {c : Nat} {cs : List Nat} {a : ot_A} {k : Nat} {u : Int32} (hk : k = B + fs.length) (h : ot_F B U V C L W ((c :: cs, a) :: fs))
    (hu : ∀ P, U k = ot_K P → u = ot_K (fun i => P i && !(i == c))) : ot_F B (upd U k u) V C L W ((cs, a) :: fs) := by
  subst hk
  obtain ⟨⟨⟨P, h1, h2⟩, h3, h4, h5, h6⟩, h7⟩ := h
  refine ⟨⟨⟨_, by rw [pk_us]; exact hu P h1, (ot_bl_cons h2).2.2.2⟩, h3, h4, h5, h6⟩, ot_F_ext (fun i hi => ⟨ot_u_ne hi, rfl, rfl, rfl, rfl⟩) h7⟩
/-- the newest row's results change -/
theorem ot_F_mod {B : Nat} {U V C L W : Nat → Int32} {fs : List (List Nat × ot_A)} {cs : List Nat} {a a2 : ot_A} {k : Nat} (hk : k = B + fs.length) (h : ot_F B U V C L W ((cs, a) :: fs)) :
    ot_F B U (upd V k a2.1) (upd C k a2.2.1) (upd L k a2.2.2.1) (upd W k a2.2.2.2) ((cs, a2) :: fs) := by
  subst hk
  obtain ⟨⟨h1, h3, h4, h5, h6⟩, h7⟩ := h
  exact ⟨⟨h1, pk_us, pk_us, pk_us, pk_us⟩, ot_F_ext (fun i hi => ⟨rfl, ot_u_ne hi, ot_u_ne hi, ot_u_ne hi, ot_u_ne hi⟩) h7⟩
