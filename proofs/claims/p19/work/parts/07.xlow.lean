/-! what the law's calls do to an object: tables, splice, reads (rb_cl .. rb_xas as in whole) -/
theorem rb_cl (p : Int32) (lo hi : Nat) (h : lo ≤ hi) (hh : hi < 2 ^ 31) : ∃ c, lo ≤ c ∧ c ≤ hi ∧ ∀ W : Int32 → Prop, W (nI c) → ((nI lo ≤ p → ((p ≤ nI hi → W p) ∧ (¬ p ≤ nI hi → W (nI hi)))) ∧ (¬ nI lo ≤ p → W (nI lo))) := by
  by_cases h1 : nI lo ≤ p
  · by_cases h2 : p ≤ nI hi
    · have h0 : ¬ p < 0 := Int32.not_lt.mpr (Int32.le_trans (nI_pos' (by omega)) h1)
      obtain ⟨c, hc, rfl⟩ := nI_of h0
      exact ⟨c, (nI_leI (by omega) hc).mp h1, (nI_leI hc hh).mp h2, fun W w => br_t h1 (br_t h2 w)⟩
    · exact ⟨hi, h, Nat.le_refl _, fun W w => br_t h1 (br_f h2 w)⟩
  · exact ⟨lo, Nat.le_refl _, h, fun W w => br_f h1 w⟩
def rb_fl (k : Nat) : Nat → Int32 := rb_y2 (fun _ => -1) (fun _ => 0) k
theorem rb_fl_in {k : Nat} (i : Nat) {Q : Nat} (hQ : 0 < Q) : rb_fl k i = -1 ∨ ∃ j, j < Q ∧ rb_fl k i = nI j := by
  unfold rb_fl rb_y2
  by_cases h : i < k
  · rw [if_pos h]; exact Or.inl rfl
  · rw [if_neg h]; exact Or.inr ⟨0, hQ, rfl⟩
theorem rb_first (P : Nat → Prop) : ∀ T : Nat, ∃ i, i ≤ T ∧ (∀ j, j < i → P j) ∧ (i < T → ¬ P i) := by
  intro T
  induction T with
  | zero => exact ⟨0, Nat.le_refl _, fun j hj => absurd hj (by omega), fun h => absurd h (by omega)⟩
  | succ T ih =>
    obtain ⟨i, a, b, c⟩ := ih
    by_cases h : i < T
    · exact ⟨i, by omega, b, fun _ => c h⟩
    · have ei : i = T := by omega
      subst ei
      by_cases hp : P i
      · exact ⟨i + 1, Nat.le_refl _, lt_s b hp, fun h => absurd h (by omega)⟩
      · exact ⟨i, by omega, b, fun _ => hp⟩
section
variable {cap Q A Z L T e : Nat} {me : Int32} {ed kd nx so tx tl tok xM xR xB : Nat → Int32}
theorem rb_xst {post : Int32 → Prop} {p : Int32} (hQ : Q ≤ 16) (h0 : p < 0 → post 0) (h1 : ¬ p < 0 → nI Q ≤ p → post 0) (h2 : ∀ j, j < Q → p = nI j → post 1) : wpX_isState post (nI cap, nI Q, nI A, nI Z, nI L, nI T, me, nI e, ed, kd, nx, so, tx, tl, tok, xM, xR, xB) p :=
  br_c h0 (fun a => br_c (h1 a) (fun b => by
    obtain ⟨j, hj, rfl⟩ := nI_of a
    exact h2 j (by rw [nI_leI (by omega) hj] at b; omega) rfl))
theorem rb_xmo {post : Int32 → Prop} {p : Int32} (hZ : Z ≤ 4) (h0 : p < 0 → post 0) (h1 : ¬ p < 0 → nI Z ≤ p → post 0) (h2 : ∀ j, j < Z → p = nI j → post 1) : wpX_isMode post (nI cap, nI Q, nI A, nI Z, nI L, nI T, me, nI e, ed, kd, nx, so, tx, tl, tok, xM, xR, xB) p :=
  br_c h0 (fun a => br_c (h1 a) (fun b => by
    obtain ⟨j, hj, rfl⟩ := nI_of a
    exact h2 j (by rw [nI_leI (by omega) hj] at b; omega) rfl))
theorem rb_xsm {post : Int32 → Prop} {p : Int32} (hA : A ≤ 8) (h0 : p < 0 → post 0) (h1 : ¬ p < 0 → nI A ≤ p → post 0) (h2 : ∀ j, j < A → p = nI j → post 1) : wpX_isSymbol post (nI cap, nI Q, nI A, nI Z, nI L, nI T, me, nI e, ed, kd, nx, so, tx, tl, tok, xM, xR, xB) p :=
  br_c h0 (fun a => br_c (h1 a) (fun b => by
    obtain ⟨j, hj, rfl⟩ := nI_of a
    exact h2 j (by rw [nI_leI (by omega) hj] at b; omega) rfl))
end
/-- the edges after setEdges, symbol by symbol -/
def rb_se (ed : Nat → Int32) (s : Nat) (mask to : Int32) : Nat → Nat → Int32
  | 0 => ed
  | c + 1 => if (mask &&& ((1 : Int32) <<< (nI c &&& 31))) = 0 then rb_se ed s mask to c else upd (rb_se ed s mask to c) (s * 8 + c) to
theorem rb_se_t {ed : Nat → Int32} {s c : Nat} {mask to : Int32} (h : (mask &&& ((1 : Int32) <<< (nI c &&& 31))) = 0) : rb_se ed s mask to (c + 1) = rb_se ed s mask to c := if_pos h
theorem rb_se_f {ed : Nat → Int32} {s c : Nat} {mask to : Int32} (h : ¬ (mask &&& ((1 : Int32) <<< (nI c &&& 31))) = 0) : rb_se ed s mask to (c + 1) = upd (rb_se ed s mask to c) (s * 8 + c) to := if_neg h
theorem rb_se_in {ed : Nat → Int32} {s Q : Nat} {mask to : Int32} (h : ∀ i, ed i = -1 ∨ ∃ j, j < Q ∧ ed i = nI j) (ht : to = -1 ∨ ∃ j, j < Q ∧ to = nI j) : ∀ c i, rb_se ed s mask to c i = -1 ∨ ∃ j, j < Q ∧ rb_se ed s mask to c i = nI j := by
  intro c
  induction c with
  | zero => exact h
  | succ c ih =>
    intro i
    by_cases z : (mask &&& ((1 : Int32) <<< (nI c &&& 31))) = 0
    · rw [rb_se_t z]; exact ih i
    · rw [rb_se_f z]
      by_cases ei : i = s * 8 + c
      · rw [ei, pk_us]; exact ht
      · rw [pk_un ei]; exact ih i
section
variable {cap Q A Z L T e : Nat} {me : Int32} {ed kd nx so tx tl tok xM xR xB : Nat → Int32}
theorem rb_x60 {post : Int32 → St2 → Prop} {s : Nat} {mask to : Int32} (hA : A ≤ 8) (hs : s < 16) (hp : post 0 (nI cap, nI Q, nI A, nI Z, nI L, nI T, me, nI e, rb_se ed s mask to A, kd, nx, so, tx, tl, tok, xM, xR, xB)) : ∃ f, wX_setEdges_60 post (nI s) mask to (nI cap) (nI Q) (nI A) (nI Z) (nI L) (nI T) me (nI e) f 0 ed kd nx so tx tl tok xM xR xB := by
  refine pk_loop (fun f i (_ : Unit) => wX_setEdges_60 post (nI s) mask to (nI cap) (nI Q) (nI A) (nI Z) (nI L) (nI T) me (nI e) f (nI i) (rb_se ed s mask to i) kd nx so tx tl tok xM xR xB) (fun _ _ => True) A 0 () (Nat.zero_le _) trivial ?_ ?_
  · intro f _ _
    exact pk_le A A (fun _ => hp) (fun z => absurd z (by omega))
  · intro f i _ hi _ hw
    have w := hw () trivial
    refine pk_le A i (fun z => absurd z (by omega)) (fun _ => br_c (fun z => nm_r (nI_1 i) ?_) (fun z => ⟨pk_in (s * 8 + i) 128 (by omega) (rb_i8 s i), nm_r (rb_ucl (rb_i8 s i) (by omega) rfl) (nm_r (nI_1 i) ?_)⟩))
    · rw [rb_se_t z] at w
      exact w
    · rw [rb_se_f z] at w
      exact w
end
section
variable {cap Q A Z L T e : Nat} {me : Int32} {ed kd nx so tx tl tok xM xR xB : Nat → Int32}
theorem rb_xas {post : Int32 → Prop} {n : Nat} {pk : Int32} (hA : A ≤ 8) (hn : n ≤ 8) (h1 : (∀ k, k < n → ∃ c, c < A ∧ rb_sy pk k = nI c) → post 1) (h2 : (∃ k, k < n ∧ ¬ rb_sy pk k < nI A) → post 0) : wpX_areSymbols post (nI cap, nI Q, nI A, nI Z, nI L, nI T, me, nI e, ed, kd, nx, so, tx, tl, tok, xM, xR, xB) (nI n) pk := by
  refine pk_loop (σ := Unit) (fun f k _ => wX_areSymbols_2 post (nI n) pk (nI cap) (nI Q) (nI A) (nI Z) (nI L) (nI T) me (nI e) ed kd nx so tx tl tok xM xR xB f (nI k)) (fun k _ => ∀ j, j < k → ∃ c, c < A ∧ rb_sy pk j = nI c) n 0 () (Nat.zero_le _) lt_0 ?_ ?_
  · intro f _ h
    exact pk_le n n (fun _ => h1 h) (fun z => absurd z (by omega))
  · intro f k _ hk h hw
    obtain ⟨c, hc, ec⟩ := rb_sy_in pk k
    refine pk_le n k (fun z => absurd z (by omega)) (fun _ => ?_)
    have G : wpX_isSymbol (fun r_3 => (((r_3 = 0 → (post 0)) ∧ (¬ r_3 = 0 → (∀ x3_5 : Int32, x3_5 = nI k + 1 → (wX_areSymbols_2 post (nI n) pk (nI cap) (nI Q) (nI A) (nI Z) (nI L) (nI T) me (nI e) ed kd nx so tx tl tok xM xR xB f x3_5)))))) (nI cap, nI Q, nI A, nI Z, nI L, nI T, me, nI e, ed, kd, nx, so, tx, tl, tok, xM, xR, xB) (rb_sy pk k) := by
      rw [ec]
      refine br_f (nI_pos (by omega)) (pk_le A c (fun z => br_t rfl (h2 ⟨k, hk, ?_⟩)) (fun z => br_f (by decide) (nm_r (nI_1 k) (hw () (lt_s h ⟨c, z, ec⟩)))))
      rw [ec]
      exact nI_nlt z (by omega)
    exact G
end
theorem rb_xini {post : St2 → Prop} {mc ms kc ks : Nat} {x1 x2 x3 x4 : Int32} (hp : post (x1, x2, x3, x4, 0, 0, 0, 0, rb_fl 128, (fun _ => 0), rb_fl 16, (fun _ => 0), (fun _ => 0), (fun _ => 0), (fun _ => 0), (fun _ => 0), (fun _ => 0), (fun _ => 0))) :
    ∃ f, wX_init_153 post mc ms kc ks x1 x2 x3 x4 0 0 0 0 f 0 (fun _ => 0) (fun _ => 0) (fun _ => 0) (fun _ => 0) (fun _ => 0) (fun _ => 0) (fun _ => 0) (fun _ => 0) (fun _ => 0) (fun _ => 0) := by
  have G := pk_loop (fun f i (_ : Unit) => wX_init_153 post mc ms kc ks x1 x2 x3 x4 0 0 0 0 f (nI i) (rb_y2 (fun _ => -1) (fun _ => 0) i) (fun _ => 0) (fun _ => 0) (fun _ => 0) (fun _ => 0) (fun _ => 0) (fun _ => 0) (fun _ => 0) (fun _ => 0) (fun _ => 0)) (fun _ _ => True) 128 0 () (Nat.zero_le _) trivial ?_ ?_
  · rw [rb_y2_0] at G
    exact G
  · intro f _ _
    refine pk_le 128 128 (fun _ => ?_) (fun z => absurd z (by omega))
    have G := pk_loop (fun f i (_ : Unit) => wX_init_178 post mc ms kc ks x1 x2 x3 x4 0 0 0 0 f (nI i) (rb_fl 128) (fun _ => 0) (rb_y2 (fun _ => -1) (fun _ => 0) i) (fun _ => 0) (fun _ => 0) (fun _ => 0) (fun _ => 0) (fun _ => 0) (fun _ => 0) (fun _ => 0)) (fun _ _ => True) 16 0 () (Nat.zero_le _) trivial ?_ ?_
    · rw [rb_y2_0] at G
      exact G
    · intro f _ _
      exact pk_le 16 16 (fun _ => hp) (fun z => absurd z (by omega))
    · intro f i _ hi _ hw
      have w := hw () trivial
      rw [← rb_y2_s] at w
      exact pk_le 16 i (fun z => absurd z (by omega)) (fun _ => ⟨pk_in i 16 hi, nm_r (rb_ucl rfl (by omega) rfl) (nm_r (nI_1 i) w)⟩)
  · intro f i _ hi _ hw
    have w := hw () trivial
    rw [← rb_y2_s] at w
    exact pk_le 128 i (fun z => absurd z (by omega)) (fun _ => ⟨pk_in i 128 hi, nm_r (rb_ucl rfl (by omega) rfl) (nm_r (nI_1 i) w)⟩)
theorem rb_sh (A : Nat) (h : 2 ≤ A) (h2 : A ≤ 8) : ¬ (((1 : Int32) <<< (nI A &&& 31)) - 1) = 0 := by
  have H : ∀ a : Fin 9, 2 ≤ a.val → ¬ (((1 : Int32) <<< (nI a.val &&& 31)) - 1) = 0 := by decide +kernel
  exact H ⟨A, by omega⟩ h
