/-! the other methods -/
theorem rb_find {S : Nat → Nat} {p : Nat} : ∀ T, p < S T → S 0 ≤ p → ∃ i, i < T ∧ S i ≤ p ∧ p < S (i + 1) := by
  intro T
  induction T with
  | zero => intro h1 h2; omega
  | succ T ih =>
    intro h1 h2
    by_cases h : S T ≤ p
    · exact ⟨T, by omega, h, h1⟩
    · obtain ⟨i, a, b⟩ := ih (by omega) h2
      exact ⟨i, by omega, b⟩
theorem rb_first (P : Nat → Prop) : ∀ T : Nat, ∃ i, i ≤ T ∧ (∀ j, j < i → P j) ∧ (i < T → ¬ P i) := by
  intro T
  induction T with
  | zero => exact ⟨0, Nat.le_refl _, fun j hj => absurd hj (by omega), fun h => absurd h (by omega)⟩
  | succ T ih =>
    obtain ⟨i, a, b, c⟩ := ih
    by_cases h : i < T
    · exact ⟨i, by omega, b, fun _ => c h⟩
    · have ei : i = T := by omega
      subst ei
      by_cases hp : P i
      · exact ⟨i + 1, Nat.le_refl _, lt_s b hp, fun h => absurd h (by omega)⟩
      · exact ⟨i, by omega, b, fun _ => hp⟩
section
variable {cap Q A Z L T e : Nat} {me oc : Int32} {ed kd nx so tx tl tok xM xR xB nt tS tE tK tM tR tB tA yS yM yR yB : Nat → Int32}
theorem rb_xtat {post : Int32 → Prop} {p i0 : Nat} {S : Nat → Nat} (hT : T ≤ 64) (hp : p < 64) (hi : i0 < T) (h1 : ∀ i, i < T → tok (i * 6 + 1) = nI (S (i + 1)) ∧ S (i + 1) ≤ 64) (h2 : ∀ i, i < i0 → S (i + 1) ≤ p) (h3 : p < S (i0 + 1)) (hq : post (nI i0)) : ∃ f, wX_tokenAt_17 post (nI p) (nI cap) (nI Q) (nI A) (nI Z) (nI L) (nI T) me (nI e) ed kd nx so tx tl tok xM xR xB f 0 := by
  refine pk_loop (fun f i (_ : Unit) => wX_tokenAt_17 post (nI p) (nI cap) (nI Q) (nI A) (nI Z) (nI L) (nI T) me (nI e) ed kd nx so tx tl tok xM xR xB f (nI i)) (fun _ _ => True) i0 0 () (Nat.zero_le _) trivial ?_ ?_
  · intro f _ _
    obtain ⟨a, b⟩ := h1 i0 hi
    exact pk_le T i0 (fun z => absurd z (by omega)) (fun _ => ⟨pk_in (i0 * 6 + 1) 384 (by omega) (rb_i6 i0 1), pk_le (S (i0 + 1)) p (fun z => absurd z (by omega)) (fun _ => hq) (rb_rd (rb_i6 i0 1) (by omega) a) rfl⟩)
  · intro f i _ hi' _ hw
    obtain ⟨a, b⟩ := h1 i (by omega)
    have c := h2 i hi'
    exact pk_le T i (fun z => absurd z (by omega)) (fun _ => ⟨pk_in (i * 6 + 1) 384 (by omega) (rb_i6 i 1), pk_le (S (i + 1)) p (fun _ => nm_r (nI_1 i) (hw () trivial)) (fun z => absurd z (by omega)) (rb_rd (rb_i6 i 1) (by omega) a) rfl⟩)
theorem rb_ytat {post : Int32 → Prop} {p i0 : Nat} {S : Nat → Nat} (hT : T ≤ 64) (hp : p < 64) (hi : i0 < T) (h1 : ∀ i, i < T → tS i = nI (S i) ∧ tE i = nI (S (i + 1)) ∧ S (i + 1) ≤ 64 ∧ S i ≤ 64) (h2 : ∀ i, i < i0 → S (i + 1) ≤ p ∧ S i ≤ p) (h3 : p < S (i0 + 1)) (h4 : S i0 ≤ p) (hq : post (nI i0)) : ∃ f, wY_tokenAt_2 post (nI p) (nI cap) (nI Q) (nI A) (nI Z) (nI L) (nI e) (nI T) oc ed kd nx so tx nt tS tE tK tM tR tB tA yS yM yR yB f 0 := by
  refine pk_loop (fun f i (_ : Unit) => wY_tokenAt_2 post (nI p) (nI cap) (nI Q) (nI A) (nI Z) (nI L) (nI e) (nI T) oc ed kd nx so tx nt tS tE tK tM tR tB tA yS yM yR yB f (nI i)) (fun _ _ => True) i0 0 () (Nat.zero_le _) trivial ?_ ?_
  · intro f _ _
    obtain ⟨a, b, c, d⟩ := h1 i0 hi
    have hi' : i0 < 2 ^ 31 := by omega
    exact pk_le T i0 (fun z => absurd z (by omega)) (fun _ => ⟨pk_in i0 64 (by omega), pk_lt p (S i0) (fun z => absurd z (by omega)) (fun _ => ⟨pk_in i0 64 (by omega), pk_le (S (i0 + 1)) p (fun z => absurd z (by omega)) (fun _ => hq) (rb_rd rfl hi' b) rfl⟩) rfl (rb_rd rfl hi' a)⟩)
  · intro f i _ hi' _ hw
    obtain ⟨a, b, c, d⟩ := h1 i (by omega)
    obtain ⟨g1, g2⟩ := h2 i hi'
    have hi' : i < 2 ^ 31 := by omega
    exact pk_le T i (fun z => absurd z (by omega)) (fun _ => ⟨pk_in i 64 (by omega), pk_lt p (S i) (fun z => absurd z (by omega)) (fun _ => ⟨pk_in i 64 (by omega), pk_le (S (i + 1)) p (fun _ => nm_r (nI_1 i) (hw () trivial)) (fun z => absurd z (by omega)) (rb_rd rfl hi' b) rfl⟩) rfl (rb_rd rfl hi' a)⟩)
theorem rb_ytan {post : Int32 → Prop} {x : Int32} (hT : T ≤ 64) (h : ∀ i, i < T → x < tS i ∨ tE i ≤ x) (hq : post (-2)) : ∃ f, wY_tokenAt_2 post x (nI cap) (nI Q) (nI A) (nI Z) (nI L) (nI e) (nI T) oc ed kd nx so tx nt tS tE tK tM tR tB tA yS yM yR yB f 0 := by
  refine pk_loop (fun f i (_ : Unit) => wY_tokenAt_2 post x (nI cap) (nI Q) (nI A) (nI Z) (nI L) (nI e) (nI T) oc ed kd nx so tx nt tS tE tK tM tR tB tA yS yM yR yB f (nI i)) (fun _ _ => True) T 0 () (Nat.zero_le _) trivial ?_ ?_
  · intro f _ _
    exact pk_le T T (fun _ => hq) (fun z => absurd z (by omega))
  · intro f i _ hi _ hw
    have hi' : i < 2 ^ 31 := by omega
    have a : tS (nI i).toNatClampNeg = tS i := rb_rcl rfl hi'
    have b : tE (nI i).toNatClampNeg = tE i := rb_rcl rfl hi'
    refine pk_le T i (fun z => absurd z (by omega)) (fun _ => ⟨pk_in i 64 (by omega), ?_⟩)
    rw [a]
    refine br_c (fun _ => nm_r (nI_1 i) (hw () trivial)) (fun z => ⟨pk_in i 64 (by omega), ?_⟩)
    rw [b]
    rcases h i hi with g | g
    · exact absurd g z
    · exact br_t g (nm_r (nI_1 i) (hw () trivial))
theorem rb_xstc {post : Int32 → Prop} {x : Int32} {i0 : Nat} (hT : T ≤ 64) (hi : i0 ≤ T) (h1 : ∀ i, i < T → tok (i * 6 + 4) = tR i) (h2 : ∀ i, i < i0 → tR i ≤ x) (h3 : i0 < T → ¬ tR i0 ≤ x) (hq : post (nI i0)) : ∃ f, wX_stableCount_17 post x (nI cap) (nI Q) (nI A) (nI Z) (nI L) (nI T) me (nI e) ed kd nx so tx tl tok xM xR xB f 0 := by
  refine pk_loop (fun f i (_ : Unit) => wX_stableCount_17 post x (nI cap) (nI Q) (nI A) (nI Z) (nI L) (nI T) me (nI e) ed kd nx so tx tl tok xM xR xB f (nI i)) (fun _ _ => True) i0 0 () (Nat.zero_le _) trivial ?_ ?_
  · intro f _ _
    refine pk_le T i0 (fun z => ?_) (fun z => ⟨pk_in (i0 * 6 + 4) 384 (by omega) (rb_i6 i0 4), ?_⟩)
    · have ei : i0 = T := by omega
      rw [ei] at hq
      exact hq
    · have a := rb_rd (a := tok) (rb_i6 i0 4) (by omega) (h1 i0 z)
      exact br_f (fun g => h3 z (a ▸ g)) hq
  · intro f i _ hi' _ hw
    have a := rb_rd (a := tok) (rb_i6 i 4) (by omega) (h1 i (by omega))
    exact pk_le T i (fun z => absurd z (by omega)) (fun _ => ⟨pk_in (i * 6 + 4) 384 (by omega) (rb_i6 i 4), br_t (a ▸ h2 i hi') (nm_r (nI_1 i) (hw () trivial))⟩)
theorem rb_ystc {post : Int32 → Prop} {x : Int32} {i0 : Nat} (hT : T ≤ 64) (hi : i0 ≤ T) (h2 : ∀ i, i < i0 → tR i ≤ x) (h3 : i0 < T → ¬ tR i0 ≤ x) (hq : post (nI i0)) : ∃ f, wY_stableCount_17 post x (nI cap) (nI Q) (nI A) (nI Z) (nI L) (nI e) (nI T) oc ed kd nx so tx nt tS tE tK tM tR tB tA yS yM yR yB f 0 := by
  refine pk_loop (fun f i (_ : Unit) => wY_stableCount_17 post x (nI cap) (nI Q) (nI A) (nI Z) (nI L) (nI e) (nI T) oc ed kd nx so tx nt tS tE tK tM tR tB tA yS yM yR yB f (nI i)) (fun _ _ => True) i0 0 () (Nat.zero_le _) trivial ?_ ?_
  · intro f _ _
    refine pk_le T i0 (fun z => ?_) (fun z => ⟨pk_in i0 64 (by omega), ?_⟩)
    · have ei : i0 = T := by omega
      rw [ei] at hq
      exact hq
    · have a : tR (nI i0).toNatClampNeg = tR i0 := rb_rcl rfl (by omega)
      exact br_f (fun g => h3 z (a ▸ g)) hq
  · intro f i _ hi' _ hw
    have a : tR (nI i).toNatClampNeg = tR i := rb_rcl rfl (by omega)
    refine pk_le T i (fun z => absurd z (by omega)) (fun _ => ⟨pk_in i 64 (by omega), ?_⟩)
    rw [a]
    exact br_t (h2 i hi') (nm_r (nI_1 i) (hw () trivial))
end
