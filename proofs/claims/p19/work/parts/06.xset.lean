/-! the class's births -/
section
variable {cap Q A Z L T e : Nat} {me : Int32} {ed kd nx so tx tl tok xM xR xB : Nat → Int32}
theorem rb_x127 {post : Int32 → St2 → Prop} {J : Int32 → Int32 → (Nat → Int32) → (Nat → Int32) → (Nat → Int32) → (Nat → Int32) → (Nat → Int32) → (Nat → Int32) → (Nat → Int32) → (Nat → Int32) → (Nat → Int32) → (Nat → Int32) → Prop} {x1 x2 x3 : Int32} {i fr b : Nat} (hi : i < 64) (hb : b < 2 ^ 31) (he : e + 1 < 2 ^ 31)
    (h1 : b = e + 1 → J (nI (fr + 1)) (nI (i + 1)) ed kd nx so tx tl (upd tok (i * 6 + 5) (nI b)) xM xR xB) (h2 : b ≠ e + 1 → J (nI fr) (nI (i + 1)) ed kd nx so tx tl (upd tok (i * 6 + 5) (nI b)) xM xR xB) : wX_settleBirths_127 post J x1 x2 x3 (nI fr) (nI i) (nI b) (nI cap) (nI Q) (nI A) (nI Z) (nI L) (nI T) me (nI (e + 1)) ed kd nx so tx tl tok xM xR xB :=
  ⟨pk_in (i * 6 + 5) 384 (by omega) (rb_i6 i 5), nm_r (rb_ucl (rb_i6 i 5) (by omega) rfl) (pk_eq b (e + 1) (fun z => nm_r (nI_1 fr) (nm_r (nI_1 i) (h1 z))) (fun z => nm_r (nI_1 i) (h2 z)))⟩
theorem rb_xset {post : Int32 → St2 → Prop} {pos del n c : Nat} {S M B S' M' : Nat → Nat} {R : Nat → Int32} (O : rb_Old c S M R B xM xR xB) (hS : ∀ i j, i < c → j < c → S i = S j → i = j) (hM : ∀ j, j < c → M j < 4) (hB : ∀ j, j < c → B j ≤ e) (he : e + 1 < 2 ^ 31) (hT : T ≤ 64) (hpn : pos + n < 2 ^ 20)
    (hc : ∀ i, i < T → tok (i * 6) = nI (S' i) ∧ tok (i * 6 + 3) = nI (M' i) ∧ S' i < 64 ∧ M' i < 4 ∧ S' i + del < 64 + n)
    (hp : ∀ tok', (∀ i, i < T → ∀ f, f < 5 → tok' (i * 6 + f) = tok (i * 6 + f)) → (∀ i, i < T → tok' (i * 6 + 5) = nI (rb_bn c S M R B pos del n e (S' i) (M' i))) →
      post (nI (rb_fr (e + 1) (fun i => rb_bn c S M R B pos del n e (S' i) (M' i)) T)) (nI cap, nI Q, nI A, nI Z, nI L, nI T, me, nI (e + 1), ed, kd, nx, so, tx, tl, tok', xM, xR, xB)) : wpX_settleBirths post (nI cap, nI Q, nI A, nI Z, nI L, nI T, me, nI (e + 1), ed, kd, nx, so, tx, tl, tok, xM, xR, xB) (nI pos) (nI del) (nI n) := by
  refine pk_loop (fun f i s => wX_settleBirths_6 post (nI pos) (nI del) (nI n) (nI cap) (nI Q) (nI A) (nI Z) (nI L) (nI T) me (nI (e + 1)) f (nI (rb_fr (e + 1) (fun i => rb_bn c S M R B pos del n e (S' i) (M' i)) i)) (nI i) ed kd nx so tx tl s xM xR xB)
    (fun i s => (∀ j, j < T → ∀ f, f < 5 → s (j * 6 + f) = tok (j * 6 + f)) ∧ (∀ j, j < i → s (j * 6 + 5) = nI (rb_bn c S M R B pos del n e (S' j) (M' j)))) T 0 tok (Nat.zero_le _) ⟨fun j _ f _ => rfl, lt_0⟩ ?_ ?_
  · intro f s h
    exact pk_le T T (fun _ => hp s h.1 h.2) (fun z => absurd z (by omega))
  · intro f i s hi h hw
    obtain ⟨h1, h2⟩ := h
    obtain ⟨c0, c3, c4, c5, c6⟩ := hc i hi
    have d0 : s (i * 6) = nI (S' i) := (h1 i hi 0 (by omega)).trans c0
    have d3 : s (i * 6 + 3) = nI (M' i) := (h1 i hi 3 (by omega)).trans c3
    have hb := rb_bn_le (S := S) (M := M) (R := R) (pos := pos) (del := del) (n := n) (s := S' i) (m := M' i) hB
    have hI : ((∀ j, j < T → ∀ f, f < 5 → upd s (i * 6 + 5) (nI (rb_bn c S M R B pos del n e (S' i) (M' i))) (j * 6 + f) = tok (j * 6 + f)) ∧ (∀ j, j < i + 1 → upd s (i * 6 + 5) (nI (rb_bn c S M R B pos del n e (S' i) (M' i))) (j * 6 + 5) = nI (rb_bn c S M R B pos del n e (S' j) (M' j)))) := by
      refine ⟨fun j hj g hg => ?_, fun j hj => ?_⟩
      · rw [pk_un (by omega)]
        exact h1 j hj g hg
      · by_cases ej : j = i
        · rw [ej, pk_us]
        · rw [pk_un (by omega)]
          exact h2 j (by omega)
    have key : ∀ x : Int32, x = nI (rb_bn c S M R B pos del n e (S' i) (M' i)) → wX_settleBirths_127 post (wX_settleBirths_6 post (nI pos) (nI del) (nI n) (nI cap) (nI Q) (nI A) (nI Z) (nI L) (nI T) me (nI (e + 1)) f) (nI pos) (nI del) (nI n) (nI (rb_fr (e + 1) (fun i => rb_bn c S M R B pos del n e (S' i) (M' i)) i)) (nI i) x (nI cap) (nI Q) (nI A) (nI Z) (nI L) (nI T) me (nI (e + 1)) ed kd nx so tx tl s xM xR xB := by
      intro x ex
      rw [ex]
      refine rb_x127 (by omega) (by omega) he (fun z => ?_) (fun z => ?_)
      · have w := hw _ hI
        rw [rb_fr_t (b := fun i => rb_bn c S M R B pos del n e (S' i) (M' i)) (i := i) z] at w
        exact w
      · have w := hw _ hI
        rw [rb_fr_f (b := fun i => rb_bn c S M R B pos del n e (S' i) (M' i)) (i := i) z] at w
        exact w
    refine pk_le T i (fun z => absurd z (by omega)) (fun _ => ⟨pk_in (i * 6) 384 (by omega) (rb_i6 i 0), nm_r (rb_rd (rb_i6 i 0) (by omega) d0) ⟨pk_in (i * 6 + 3) 384 (by omega) (rb_i6 i 3), nm_r (rb_rd (rb_i6 i 3) (by omega) d3) ?_⟩⟩)
    refine pk_le pos (S' i) (fun h => pk_lt (S' i) (pos + n) (fun h' => key _ (congrArg nI (rb_xb3 h h').symm)) (fun h' => ?_) rfl (nI_add pos n)) (fun h => ⟨pk_in (S' i) 64 c4, ?_⟩)
    · have ep : nI (S' i) - nI n + nI del = nI (S' i - n + del) := by rw [pk_sub (by omega), nI_add]
      refine nm_r ep ⟨pk_in (S' i - n + del) 64 (by omega), br_c (fun z => ⟨pk_in (S' i - n + del) 64 (by omega), fun x ex => key x ?_⟩) (fun z => key _ ?_)⟩
      · have z' : xM (S' i - n + del) = nI (M' i) := (rb_rcl rfl (by omega)).symm.trans z
        exact ex.trans (rb_rd rfl (by omega) (rb_xb2 O hS hM c5 (by omega) h' (by omega) z'))
      · exact congrArg nI (rb_xb2n O h' (p := S' i - n + del) (by omega) (fun g => z (rb_rd rfl (by omega) g))).symm
    · have rr : xR (nI (S' i)).toNatClampNeg = xR (S' i) := rb_rcl rfl (by omega)
      refine br_c (fun z => ⟨pk_in (S' i) 64 c4, br_c (fun g => key _ ?_) (fun g => ⟨pk_in (S' i) 64 c4, fun x ex => key x ?_⟩)⟩) (fun z => key _ ?_)
      · rw [rr] at g
        exact congrArg nI (rb_xb1n O h (fun q => Int32.not_le.mpr g q.2)).symm
      · rw [rr] at g
        exact ex.trans (rb_rd rfl (by omega) (rb_xb1 O hS hM c5 c4 h ((rb_rcl rfl (by omega)).symm.trans z) (Int32.not_lt.mp g)))
      · exact congrArg nI (rb_xb1n O h (fun q => z (rb_rd rfl (by omega) q.1))).symm
end
