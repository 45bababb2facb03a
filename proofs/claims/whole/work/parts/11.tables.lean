/-! the constructor and the tables -/
theorem rb_cl (p : Int32) (lo hi : Nat) (h : lo ≤ hi) (hh : hi < 2 ^ 31) : ∃ c, lo ≤ c ∧ c ≤ hi ∧ ∀ W : Int32 → Prop, W (nI c) → ((nI lo ≤ p → ((p ≤ nI hi → W p) ∧ (¬ p ≤ nI hi → W (nI hi)))) ∧ (¬ nI lo ≤ p → W (nI lo))) := by
  by_cases h1 : nI lo ≤ p
  · by_cases h2 : p ≤ nI hi
    · have h0 : ¬ p < 0 := Int32.not_lt.mpr (Int32.le_trans (nI_pos' (by omega)) h1)
      obtain ⟨c, hc, rfl⟩ := nI_of h0
      exact ⟨c, (nI_leI (by omega) hc).mp h1, (nI_leI hc hh).mp h2, fun W w => br_t h1 (br_t h2 w)⟩
    · exact ⟨hi, h, Nat.le_refl _, fun W w => br_t h1 (br_f h2 w)⟩
  · exact ⟨lo, Nat.le_refl _, h, fun W w => br_f h1 w⟩
def rb_fl (k : Nat) : Nat → Int32 := rb_y2 (fun _ => -1) (fun _ => 0) k
theorem rb_fl_in {k : Nat} (i : Nat) {Q : Nat} (hQ : 0 < Q) : rb_fl k i = -1 ∨ ∃ j, j < Q ∧ rb_fl k i = nI j := by
  unfold rb_fl rb_y2
  by_cases h : i < k
  · rw [if_pos h]; exact Or.inl rfl
  · rw [if_neg h]; exact Or.inr ⟨0, hQ, rfl⟩
theorem rb_xini {post : SX → Prop} {x1 x2 x3 x4 : Int32} (hp : post (x1, x2, x3, x4, 0, 0, 0, 0, rb_fl 128, (fun _ => 0), rb_fl 16, (fun _ => 0), (fun _ => 0), (fun _ => 0), (fun _ => 0), (fun _ => 0), (fun _ => 0), (fun _ => 0))) :
    ∃ f, wX_init_153 post x1 x2 x3 x4 0 0 0 0 f 0 (fun _ => 0) (fun _ => 0) (fun _ => 0) (fun _ => 0) (fun _ => 0) (fun _ => 0) (fun _ => 0) (fun _ => 0) (fun _ => 0) (fun _ => 0) := by
  have G := pk_loop (fun f i (_ : Unit) => wX_init_153 post x1 x2 x3 x4 0 0 0 0 f (nI i) (rb_y2 (fun _ => -1) (fun _ => 0) i) (fun _ => 0) (fun _ => 0) (fun _ => 0) (fun _ => 0) (fun _ => 0) (fun _ => 0) (fun _ => 0) (fun _ => 0) (fun _ => 0)) (fun _ _ => True) 128 0 () (Nat.zero_le _) trivial ?_ ?_
  · rw [rb_y2_0] at G
    exact G
  · intro f _ _
    refine pk_le 128 128 (fun _ => ?_) (fun z => absurd z (by omega))
    have G := pk_loop (fun f i (_ : Unit) => wX_init_178 post x1 x2 x3 x4 0 0 0 0 f (nI i) (rb_fl 128) (fun _ => 0) (rb_y2 (fun _ => -1) (fun _ => 0) i) (fun _ => 0) (fun _ => 0) (fun _ => 0) (fun _ => 0) (fun _ => 0) (fun _ => 0) (fun _ => 0)) (fun _ _ => True) 16 0 () (Nat.zero_le _) trivial ?_ ?_
    · rw [rb_y2_0] at G
      exact G
    · intro f _ _
      exact pk_le 16 16 (fun _ => hp) (fun z => absurd z (by omega))
    · intro f i _ hi _ hw
      have w := hw () trivial
      rw [← rb_y2_s] at w
      exact pk_le 16 i (fun z => absurd z (by omega)) (fun _ => ⟨pk_in i 16 hi, nm_r (rb_ucl rfl (by omega) rfl) (nm_r (nI_1 i) w)⟩)
  · intro f i _ hi _ hw
    have w := hw () trivial
    rw [← rb_y2_s] at w
    exact pk_le 128 i (fun z => absurd z (by omega)) (fun _ => ⟨pk_in i 128 hi, nm_r (rb_ucl rfl (by omega) rfl) (nm_r (nI_1 i) w)⟩)
theorem rb_yini {post : SY → Prop} {x1 x2 x3 x4 : Int32} (hp : post (x1, x2, x3, x4, 0, 0, 0, 0, rb_fl 128, (fun _ => 0), rb_fl 16, (fun _ => 0), (fun _ => 0), (fun _ => 0), (fun _ => 0), (fun _ => 0), (fun _ => 0), (fun _ => 0), (fun _ => 0), (fun _ => 0), (fun _ => 0), (fun _ => 0), (fun _ => 0), (fun _ => 0), (fun _ => 0))) :
    ∃ f, wY_init_246 post x1 x2 x3 x4 0 0 0 0 f 0 (fun _ => 0) (fun _ => 0) (fun _ => 0) (fun _ => 0) (fun _ => 0) (fun _ => 0) (fun _ => 0) (fun _ => 0) (fun _ => 0) (fun _ => 0) (fun _ => 0) (fun _ => 0) (fun _ => 0) (fun _ => 0) (fun _ => 0) (fun _ => 0) (fun _ => 0) := by
  have G := pk_loop (fun f i (_ : Unit) => wY_init_246 post x1 x2 x3 x4 0 0 0 0 f (nI i) (rb_y2 (fun _ => -1) (fun _ => 0) i) (fun _ => 0) (fun _ => 0) (fun _ => 0) (fun _ => 0) (fun _ => 0) (fun _ => 0) (fun _ => 0) (fun _ => 0) (fun _ => 0) (fun _ => 0) (fun _ => 0) (fun _ => 0) (fun _ => 0) (fun _ => 0) (fun _ => 0) (fun _ => 0)) (fun _ _ => True) 128 0 () (Nat.zero_le _) trivial ?_ ?_
  · rw [rb_y2_0] at G
    exact G
  · intro f _ _
    refine pk_le 128 128 (fun _ => ?_) (fun z => absurd z (by omega))
    have G := pk_loop (fun f i (_ : Unit) => wY_init_271 post x1 x2 x3 x4 0 0 0 0 f (nI i) (rb_fl 128) (fun _ => 0) (rb_y2 (fun _ => -1) (fun _ => 0) i) (fun _ => 0) (fun _ => 0) (fun _ => 0) (fun _ => 0) (fun _ => 0) (fun _ => 0) (fun _ => 0) (fun _ => 0) (fun _ => 0) (fun _ => 0) (fun _ => 0) (fun _ => 0) (fun _ => 0) (fun _ => 0)) (fun _ _ => True) 16 0 () (Nat.zero_le _) trivial ?_ ?_
    · rw [rb_y2_0] at G
      exact G
    · intro f _ _
      exact pk_le 16 16 (fun _ => hp) (fun z => absurd z (by omega))
    · intro f i _ hi _ hw
      have w := hw () trivial
      rw [← rb_y2_s] at w
      exact pk_le 16 i (fun z => absurd z (by omega)) (fun _ => ⟨pk_in i 16 hi, nm_r (rb_ucl rfl (by omega) rfl) (nm_r (nI_1 i) w)⟩)
  · intro f i _ hi _ hw
    have w := hw () trivial
    rw [← rb_y2_s] at w
    exact pk_le 128 i (fun z => absurd z (by omega)) (fun _ => ⟨pk_in i 128 hi, nm_r (rb_ucl rfl (by omega) rfl) (nm_r (nI_1 i) w)⟩)
theorem i_vc0 (k0 : Int32) (k1 : Int32) (k2 : Int32) (k3 : Int32) : wpX_init (fun u => wpY_init (fun v => i_Rel 4 u v) k0 k1 k2 k3) k0 k1 k2 k3 := by
  obtain ⟨cap, p1, p2, P⟩ := rb_cl k0 8 64 (by omega) (by omega)
  obtain ⟨Q, q1, q2, Q'⟩ := rb_cl k1 4 16 (by omega) (by omega)
  obtain ⟨A, a1, a2, A'⟩ := rb_cl k2 2 8 (by omega) (by omega)
  obtain ⟨Z, z1, z2, Z'⟩ := rb_cl k3 1 4 (by omega) (by omega)
  have J : i_Rel 4 (nI cap, nI Q, nI A, nI Z, 0, 0, 0, 0, rb_fl 128, (fun _ => 0), rb_fl 16, (fun _ => 0), (fun _ => 0), (fun _ => 0), (fun _ => 0), (fun _ => 0), (fun _ => 0), (fun _ => 0))
      (nI cap, nI Q, nI A, nI Z, 0, 0, 0, 0, rb_fl 128, (fun _ => 0), rb_fl 16, (fun _ => 0), (fun _ => 0), (fun _ => 0), (fun _ => 0), (fun _ => 0), (fun _ => 0), (fun _ => 0), (fun _ => 0), (fun _ => 0), (fun _ => 0), (fun _ => 0), (fun _ => 0), (fun _ => 0), (fun _ => 0)) :=
    rb_mk (L := 0) (T := 0) (e := 0) (S := fun _ => 0) (M := fun _ => 0) (B := fun _ => 0) ⟨⟨p1, p2, q1, a1, z1, Nat.zero_le _, Nat.zero_le _⟩, ⟨a2, q2, z2, by omega, fun i => rb_fl_in i (by omega), fun i => rb_fl_in i (by omega), fun i => ⟨0, by omega, rfl⟩, fun i hi => absurd hi (by omega)⟩,
      fun i hi => absurd hi (by omega), ⟨rfl, rfl, fun i hi => absurd hi (by omega), fun i hi => absurd hi (by omega)⟩, fun _ => rfl, fun i hi => absurd hi (by omega)⟩
  have P2 : ∀ W : Int32 → Prop, W (nI cap) → wpX_clamp W k0 8 64 := fun W w => P W w
  have Q2 : ∀ W : Int32 → Prop, W (nI Q) → wpX_clamp W k1 4 16 := fun W w => Q' W w
  have A2 : ∀ W : Int32 → Prop, W (nI A) → wpX_clamp W k2 2 8 := fun W w => A' W w
  have Z2 : ∀ W : Int32 → Prop, W (nI Z) → wpX_clamp W k3 1 4 := fun W w => Z' W w
  unfold wpX_init
  refine P2 _ ?_
  refine Q2 _ ?_
  refine A2 _ ?_
  refine Z2 _ ?_
  refine rb_xini ?_
  unfold wpY_init
  refine P (fun r => wY_init_164 _ k1 k2 k3 r 0 0 0 0 0 0 0 0 _ _ _ _ _ _ _ _ _ _ _ _ _ _ _ _ _) ?_
  refine Q' (fun r => wY_init_189 _ k2 k3 r (nI cap) 0 0 0 0 0 0 0 _ _ _ _ _ _ _ _ _ _ _ _ _ _ _ _ _) ?_
  refine A' (fun r => wY_init_214 _ k3 r (nI cap) (nI Q) 0 0 0 0 0 0 _ _ _ _ _ _ _ _ _ _ _ _ _ _ _ _ _) ?_
  refine Z' (fun r => ∃ f, wY_init_246 _ (nI cap) (nI Q) (nI A) r 0 0 0 0 f 0 _ _ _ _ _ _ _ _ _ _ _ _ _ _ _ _ _) ?_
  exact rb_yini J
section
variable {cap Q A Z L T e : Nat} {me oc : Int32} {ed kd nx so tx tl tok xM xR xB nt tS tE tK tM tR tB tA yS yM yR yB : Nat → Int32}
theorem rb_xst {post : Int32 → Prop} {p : Int32} (hQ : Q ≤ 16) (h0 : p < 0 → post 0) (h1 : ¬ p < 0 → nI Q ≤ p → post 0) (h2 : ∀ j, j < Q → p = nI j → post 1) : wpX_isState post (nI cap, nI Q, nI A, nI Z, nI L, nI T, me, nI e, ed, kd, nx, so, tx, tl, tok, xM, xR, xB) p :=
  br_c h0 (fun a => br_c (h1 a) (fun b => by
    obtain ⟨j, hj, rfl⟩ := nI_of a
    exact h2 j (by rw [nI_leI (by omega) hj] at b; omega) rfl))
theorem rb_xmo {post : Int32 → Prop} {p : Int32} (hZ : Z ≤ 4) (h0 : p < 0 → post 0) (h1 : ¬ p < 0 → nI Z ≤ p → post 0) (h2 : ∀ j, j < Z → p = nI j → post 1) : wpX_isMode post (nI cap, nI Q, nI A, nI Z, nI L, nI T, me, nI e, ed, kd, nx, so, tx, tl, tok, xM, xR, xB) p :=
  br_c h0 (fun a => br_c (h1 a) (fun b => by
    obtain ⟨j, hj, rfl⟩ := nI_of a
    exact h2 j (by rw [nI_leI (by omega) hj] at b; omega) rfl))
theorem rb_xsm {post : Int32 → Prop} {p : Int32} (hA : A ≤ 8) (h0 : p < 0 → post 0) (h1 : ¬ p < 0 → nI A ≤ p → post 0) (h2 : ∀ j, j < A → p = nI j → post 1) : wpX_isSymbol post (nI cap, nI Q, nI A, nI Z, nI L, nI T, me, nI e, ed, kd, nx, so, tx, tl, tok, xM, xR, xB) p :=
  br_c h0 (fun a => br_c (h1 a) (fun b => by
    obtain ⟨j, hj, rfl⟩ := nI_of a
    exact h2 j (by rw [nI_leI (by omega) hj] at b; omega) rfl))
end
/-- the edges after setEdges, symbol by symbol -/
def rb_se (ed : Nat → Int32) (s : Nat) (mask to : Int32) : Nat → Nat → Int32
  | 0 => ed
  | c + 1 => if (mask &&& ((1 : Int32) <<< (nI c &&& 31))) = 0 then rb_se ed s mask to c else upd (rb_se ed s mask to c) (s * 8 + c) to
theorem rb_se_t {ed : Nat → Int32} {s c : Nat} {mask to : Int32} (h : (mask &&& ((1 : Int32) <<< (nI c &&& 31))) = 0) : rb_se ed s mask to (c + 1) = rb_se ed s mask to c := if_pos h
theorem rb_se_f {ed : Nat → Int32} {s c : Nat} {mask to : Int32} (h : ¬ (mask &&& ((1 : Int32) <<< (nI c &&& 31))) = 0) : rb_se ed s mask to (c + 1) = upd (rb_se ed s mask to c) (s * 8 + c) to := if_neg h
theorem rb_se_in {ed : Nat → Int32} {s Q : Nat} {mask to : Int32} (h : ∀ i, ed i = -1 ∨ ∃ j, j < Q ∧ ed i = nI j) (ht : to = -1 ∨ ∃ j, j < Q ∧ to = nI j) : ∀ c i, rb_se ed s mask to c i = -1 ∨ ∃ j, j < Q ∧ rb_se ed s mask to c i = nI j := by
  intro c
  induction c with
  | zero => exact h
  | succ c ih =>
    intro i
    by_cases z : (mask &&& ((1 : Int32) <<< (nI c &&& 31))) = 0
    · rw [rb_se_t z]; exact ih i
    · rw [rb_se_f z]
      by_cases ei : i = s * 8 + c
      · rw [ei, pk_us]; exact ht
      · rw [pk_un ei]; exact ih i
section
variable {cap Q A Z L T e : Nat} {me oc : Int32} {ed kd nx so tx tl tok xM xR xB nt tS tE tK tM tR tB tA yS yM yR yB : Nat → Int32}
theorem rb_x60 {post : Int32 → SX → Prop} {s : Nat} {mask to : Int32} (hA : A ≤ 8) (hs : s < 16) (hp : post 0 (nI cap, nI Q, nI A, nI Z, nI L, nI T, me, nI e, rb_se ed s mask to A, kd, nx, so, tx, tl, tok, xM, xR, xB)) : ∃ f, wX_setEdges_60 post (nI s) mask to (nI cap) (nI Q) (nI A) (nI Z) (nI L) (nI T) me (nI e) f 0 ed kd nx so tx tl tok xM xR xB := by
  refine pk_loop (fun f i (_ : Unit) => wX_setEdges_60 post (nI s) mask to (nI cap) (nI Q) (nI A) (nI Z) (nI L) (nI T) me (nI e) f (nI i) (rb_se ed s mask to i) kd nx so tx tl tok xM xR xB) (fun _ _ => True) A 0 () (Nat.zero_le _) trivial ?_ ?_
  · intro f _ _
    exact pk_le A A (fun _ => hp) (fun z => absurd z (by omega))
  · intro f i _ hi _ hw
    have w := hw () trivial
    refine pk_le A i (fun z => absurd z (by omega)) (fun _ => br_c (fun z => nm_r (nI_1 i) ?_) (fun z => ⟨pk_in (s * 8 + i) 128 (by omega) (rb_i8 s i), nm_r (rb_ucl (rb_i8 s i) (by omega) rfl) (nm_r (nI_1 i) ?_)⟩))
    · rw [rb_se_t z] at w
      exact w
    · rw [rb_se_f z] at w
      exact w
theorem rb_y68 {post : Int32 → SY → Prop} {s : Nat} {mask to : Int32} (hA : A ≤ 8) (hs : s < 16) (hp : post 0 (nI cap, nI Q, nI A, nI Z, nI L, nI e, nI T, oc, rb_se ed s mask to A, kd, nx, so, tx, nt, tS, tE, tK, tM, tR, tB, tA, yS, yM, yR, yB)) : ∃ f, wY_setEdges_68 post (nI s) mask to (nI cap) (nI Q) (nI A) (nI Z) (nI L) (nI e) (nI T) oc f 0 ed kd nx so tx nt tS tE tK tM tR tB tA yS yM yR yB := by
  refine pk_loop (fun f i (_ : Unit) => wY_setEdges_68 post (nI s) mask to (nI cap) (nI Q) (nI A) (nI Z) (nI L) (nI e) (nI T) oc f (nI i) (rb_se ed s mask to i) kd nx so tx nt tS tE tK tM tR tB tA yS yM yR yB) (fun _ _ => True) A 0 () (Nat.zero_le _) trivial ?_ ?_
  · intro f _ _
    exact pk_le A A (fun _ => hp) (fun z => absurd z (by omega))
  · intro f i _ hi _ hw
    have w := hw () trivial
    refine pk_le A i (fun z => absurd z (by omega)) (fun _ => br_c (fun z => nm_r (nI_1 i) ?_) (fun z => ⟨pk_in (s * 8 + i) 128 (by omega) (rb_i8 s i), nm_r (rb_ucl (rb_i8 s i) (by omega) rfl) (nm_r (nI_1 i) ?_)⟩))
    · rw [rb_se_t z] at w
      exact w
    · rw [rb_se_f z] at w
      exact w
end
