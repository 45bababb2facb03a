/-! splice, both sides -/
section
variable {cap Q A Z L T e : Nat} {me oc : Int32} {ed kd nx so tx tl tok xM xR xB nt tS tE tK tM tR tB tA yS yM yR yB : Nat → Int32}
theorem rb_x68 {post : Int32 → SX → Prop} {pos del n T' : Nat} {pk : Int32} {S M B S' M' : Nat → Nat} {K : Nat → Int32} {lk : Nat → Nat} (hL : L ≤ cap) (hcap : cap ≤ 64) (hZ : Z ≤ 4) (he : e + 1 < 2 ^ 31)
    (E' : rb_Env ed nx so (rb_nt tx (rb_sy pk) L pos del n) A (L - del + n) Q Z) (hs : rb_Seq ed kd nx so (rb_nt tx (rb_sy pk) L pos del n) A (L - del + n) Z T' S' M' K lk) (ht : rb_Tok T tok tS tE tK tM tR tB) (hl : rb_Lst T L Z e tS tE tM tB S M B)
    (hd : pos + del ≤ L) (hn : n ≤ 8) (hc : L - del + n ≤ cap)
    (hp : ∀ tl' tok' xM' xR' xB', rb_Cut S' M' K lk T' tok' → (∀ i, i < T' → tok' (i * 6 + 5) = nI (rb_bn T S M tR B pos del n e (S' i) (M' i))) →
      post (nI (rb_fr (e + 1) (fun i => rb_bn T S M tR B pos del n e (S' i) (M' i)) T')) (nI cap, nI Q, nI A, nI Z, nI (L - del + n), nI T', nI (M' T'), nI (e + 1), ed, kd, nx, so, rb_nt tx (rb_sy pk) L pos del n, tl', tok', xM', xR', xB')) :
    wX_splice_68 post (nI pos) (nI del) (nI n) pk (nI cap) (nI Q) (nI A) (nI Z) (nI L) (nI T) me (nI e) ed kd nx so tx tl tok xM xR xB := by
  have hT : T ≤ L := rb_Lst_T hl
  have hSL := fun i (hi : i < T) => rb_Lst_S hl hi
  obtain ⟨l1, l2, l3, l4⟩ := hl
  have hs' := hs
  obtain ⟨s1, s2, s3, s4, s5, s6⟩ := hs'
  refine pk_le (L - del + n) cap (fun _ => ?_) (fun z => absurd z (by omega)) (by rw [pk_sub (by omega), nI_add]) rfl
  refine rb_xrem (S := S) (M := M) (B := B) (R := tR) (by omega) (fun i hi => ?_) (rb_ch_in l3) (fun xM' xR' xB' O => rb_xrep hd (by omega) (by omega) (fun tl' => rb_xcut E' hs (fun tok' hC => nm_r (nI_1 e) ?_)))
  · obtain ⟨o1, o2, o3, o4, o5, o6⟩ := ht i hi
    obtain ⟨p1, p2, p3, p4, p5, p6⟩ := l4 i hi
    have p7 := hSL i hi
    exact ⟨o1.trans p1, o4.trans p3, o5, o6.trans p4, by omega⟩
  · refine rb_xset (S' := S') (M' := M') O (rb_ch_in l3) (fun j hj => ?_) (fun j hj => (l4 j hj).2.2.2.2.2) he (by omega) (by omega) (fun i hi => ?_) (fun tok'' g1 g2 => hp _ _ _ _ _ (fun j hj => ?_) g2)
    · have p5 := (l4 j hj).2.2.2.2.1
      omega
    · obtain ⟨o1, o2, o3, o4, o5⟩ := hC i hi
      obtain ⟨p1, p2, p3, p4⟩ := s6 i hi
      exact ⟨o1, o4, by omega, by omega, by omega⟩
    · have q0 : tok'' (j * 6) = tok' (j * 6) := g1 j hj 0 (by omega)
      rw [q0, g1 j hj 1 (by omega), g1 j hj 2 (by omega), g1 j hj 3 (by omega), g1 j hj 4 (by omega)]
      exact hC j hj
theorem rb_xas {post : Int32 → Prop} {n : Nat} {pk : Int32} (hA : A ≤ 8) (hn : n ≤ 8) (h1 : (∀ k, k < n → ∃ c, c < A ∧ rb_sy pk k = nI c) → post 1) (h2 : (∃ k, k < n ∧ ¬ rb_sy pk k < nI A) → post 0) : wpX_areSymbols post (nI cap, nI Q, nI A, nI Z, nI L, nI T, me, nI e, ed, kd, nx, so, tx, tl, tok, xM, xR, xB) (nI n) pk := by
  refine pk_loop (σ := Unit) (fun f k _ => wX_areSymbols_2 post (nI n) pk (nI cap) (nI Q) (nI A) (nI Z) (nI L) (nI T) me (nI e) ed kd nx so tx tl tok xM xR xB f (nI k)) (fun k _ => ∀ j, j < k → ∃ c, c < A ∧ rb_sy pk j = nI c) n 0 () (Nat.zero_le _) lt_0 ?_ ?_
  · intro f _ h
    exact pk_le n n (fun _ => h1 h) (fun z => absurd z (by omega))
  · intro f k _ hk h hw
    obtain ⟨c, hc, ec⟩ := rb_sy_in pk k
    refine pk_le n k (fun z => absurd z (by omega)) (fun _ => ?_)
    have G : wpX_isSymbol (fun r_3 => (((r_3 = 0 → (post 0)) ∧ (¬ r_3 = 0 → (∀ x3_23 : Int32, x3_23 = nI k + 1 → (wX_areSymbols_2 post (nI n) pk (nI cap) (nI Q) (nI A) (nI Z) (nI L) (nI T) me (nI e) ed kd nx so tx tl tok xM xR xB f x3_23)))))) (nI cap, nI Q, nI A, nI Z, nI L, nI T, me, nI e, ed, kd, nx, so, tx, tl, tok, xM, xR, xB) (rb_sy pk k) := by
      rw [ec]
      refine br_f (nI_pos (by omega)) (pk_le A c (fun z => br_t rfl (h2 ⟨k, hk, ?_⟩)) (fun z => br_f (by decide) (nm_r (nI_1 k) (hw () (lt_s h ⟨c, z, ec⟩)))))
      rw [ec]
      exact nI_nlt z (by omega)
    exact G
theorem rb_y48 {post : Int32 → SY → Prop} {n : Nat} {x1 x2 pk : Int32} (hA : A ≤ 8) (hn : n ≤ 8)
    (h1 : (∀ k, k < n → ∃ c, c < A ∧ rb_sy pk k = nI c) → (((x2 = 0 → (((nI n = 0 → (post 0 (nI cap, nI Q, nI A, nI Z, nI L, nI e, nI T, oc, ed, kd, nx, so, tx, nt, tS, tE, tK, tM, tR, tB, tA, yS, yM, yR, yB))) ∧ (¬ nI n = 0 → (wY_splice_90 post x1 x2 (nI n) pk (nI cap) (nI Q) (nI A) (nI Z) (nI L) (nI e) (nI T) oc ed kd nx so tx nt tS tE tK tM tR tB tA yS yM yR yB))))) ∧ (¬ x2 = 0 → (wY_splice_90 post x1 x2 (nI n) pk (nI cap) (nI Q) (nI A) (nI Z) (nI L) (nI e) (nI T) oc ed kd nx so tx nt tS tE tK tM tR tB tA yS yM yR yB)))))
    (h2 : (∃ k, k < n ∧ ¬ rb_sy pk k < nI A) → post (-2) (nI cap, nI Q, nI A, nI Z, nI L, nI e, nI T, oc, ed, kd, nx, so, tx, nt, tS, tE, tK, tM, tR, tB, tA, yS, yM, yR, yB)) : ∃ f, wY_splice_48 post x1 x2 (nI n) pk (nI cap) (nI Q) (nI A) (nI Z) (nI L) (nI e) (nI T) oc ed kd nx so tx nt tS tE tK tM tR tB tA yS yM yR yB f 0 := by
  refine pk_loop (σ := Unit) (fun f k _ => wY_splice_48 post x1 x2 (nI n) pk (nI cap) (nI Q) (nI A) (nI Z) (nI L) (nI e) (nI T) oc ed kd nx so tx nt tS tE tK tM tR tB tA yS yM yR yB f (nI k)) (fun k _ => ∀ j, j < k → ∃ c, c < A ∧ rb_sy pk j = nI c) n 0 () (Nat.zero_le _) lt_0 ?_ ?_
  · intro f _ h
    exact pk_le n n (fun _ => h1 h) (fun z => absurd z (by omega))
  · intro f k _ hk h hw
    obtain ⟨c, hc, ec⟩ := rb_sy_in pk k
    refine pk_le n k (fun z => absurd z (by omega)) (fun _ => ?_)
    have G : (rb_sy pk k < nI A → (∀ x5_101 : Int32, x5_101 = nI k + 1 → (wY_splice_48 post x1 x2 (nI n) pk (nI cap) (nI Q) (nI A) (nI Z) (nI L) (nI e) (nI T) oc ed kd nx so tx nt tS tE tK tM tR tB tA yS yM yR yB f x5_101))) ∧ (¬ rb_sy pk k < nI A → (post (-2) (nI cap, nI Q, nI A, nI Z, nI L, nI e, nI T, oc, ed, kd, nx, so, tx, nt, tS, tE, tK, tM, tR, tB, tA, yS, yM, yR, yB))) := by
      refine br_c (fun z => ?_) (fun z => h2 ⟨k, hk, z⟩)
      rw [ec, nI_ltI (by omega) (by omega)] at z
      exact nm_r (nI_1 k) (hw () (lt_s h ⟨c, z, ec⟩))
    exact G
end
theorem i_vc_splice {k : Nat} {u : SX} {v : SY} (I : i_Rel k u v) (hk : k + 5 ≤ 2564) (v1 : Int32) (v2 : Int32) (v3 : Int32) (v4 : Int32) : wpX_splice (fun r u' => wpY_splice (fun r' v' => r' = r ∧ i_Rel (k + 5) u' v') v v1 v2 v3 v4) u v1 v2 v3 v4 := by
  obtain ⟨cap, Q, A, Z, L, T, e, me, oc, ed, kd, nx, so, tx, tl, tok, xM, xR, xB, nt, tS, tE, tK, tM, tR, tB, tA, yS, yM, yR, yB, S, M, B, rfl, rfl, h⟩ := I
  have J : i_Rel (k + 5) (nI cap, nI Q, nI A, nI Z, nI L, nI T, me, nI e, ed, kd, nx, so, tx, tl, tok, xM, xR, xB) (nI cap, nI Q, nI A, nI Z, nI L, nI e, nI T, oc, ed, kd, nx, so, tx, nt, tS, tE, tK, tM, tR, tB, tA, yS, yM, yR, yB) := rb_mk (rb_C_up h)
  obtain ⟨⟨c1, c2, c3, c4, c5, c6, c7⟩, E, ht, hl, hm0, hm1⟩ := h
  have E' := E
  obtain ⟨E1, E2, E3, E4, E5, E6, E7, E8⟩ := E'
  by_cases a1 : v1 < 0
  · exact br_t a1 (br_t a1 ⟨rfl, J⟩)
  by_cases a2 : v1 ≤ nI L
  rotate_left
  · exact br_f a1 (br_f a2 (br_f a1 (br_f a2 ⟨rfl, J⟩)))
  by_cases a3 : v2 < 0
  · exact br_f a1 (br_t a2 (br_t a3 (br_f a1 (br_t a2 (br_t a3 ⟨rfl, J⟩)))))
  by_cases a4 : v2 ≤ nI L - v1
  rotate_left
  · exact br_f a1 (br_t a2 (br_f a3 (br_f a4 (br_f a1 (br_t a2 (br_f a3 (br_f a4 ⟨rfl, J⟩)))))))
  by_cases a5 : v3 < 0
  · exact br_f a1 (br_t a2 (br_f a3 (br_t a4 (br_t a5 (br_f a1 (br_t a2 (br_f a3 (br_t a4 (br_t a5 ⟨rfl, J⟩)))))))))
  by_cases a6 : v3 ≤ 8
  rotate_left
  · exact br_f a1 (br_t a2 (br_f a3 (br_t a4 (br_f a5 (br_f a6 (br_f a1 (br_t a2 (br_f a3 (br_t a4 (br_f a5 (br_f a6 ⟨rfl, J⟩)))))))))))
  obtain ⟨pos, hpos, rfl⟩ := nI_of a1
  obtain ⟨del, hdel, rfl⟩ := nI_of a3
  obtain ⟨n, hn', rfl⟩ := nI_of a5
  have hp : pos ≤ L := (nI_leI hpos (by omega)).mp a2
  have a4' := a4
  rw [pk_sub hp] at a4'
  have hd' : del ≤ L - pos := (nI_leI hdel (by omega)).mp a4'
  have hd : pos + del ≤ L := by omega
  have hn : n ≤ 8 := (nI_leI (b := 8) hn' (by omega)).mp a6
  have YW : ∀ post : Int32 → SY → Prop, ((∀ k, k < n → ∃ c, c < A ∧ rb_sy v4 k = nI c) → (((nI del = 0 → (((nI n = 0 → (post 0 (nI cap, nI Q, nI A, nI Z, nI L, nI e, nI T, oc, ed, kd, nx, so, tx, nt, tS, tE, tK, tM, tR, tB, tA, yS, yM, yR, yB))) ∧ (¬ nI n = 0 → (wY_splice_90 post (nI pos) (nI del) (nI n) v4 (nI cap) (nI Q) (nI A) (nI Z) (nI L) (nI e) (nI T) oc ed kd nx so tx nt tS tE tK tM tR tB tA yS yM yR yB))))) ∧ (¬ nI del = 0 → (wY_splice_90 post (nI pos) (nI del) (nI n) v4 (nI cap) (nI Q) (nI A) (nI Z) (nI L) (nI e) (nI T) oc ed kd nx so tx nt tS tE tK tM tR tB tA yS yM yR yB))))) →
      ((∃ k, k < n ∧ ¬ rb_sy v4 k < nI A) → post (-2) (nI cap, nI Q, nI A, nI Z, nI L, nI e, nI T, oc, ed, kd, nx, so, tx, nt, tS, tE, tK, tM, tR, tB, tA, yS, yM, yR, yB)) → wpY_splice post (nI cap, nI Q, nI A, nI Z, nI L, nI e, nI T, oc, ed, kd, nx, so, tx, nt, tS, tE, tK, tM, tR, tB, tA, yS, yM, yR, yB) (nI pos) (nI del) (nI n) v4 :=
    fun post h1 h2 => br_f a1 (br_t a2 (br_f a3 (br_t a4 (br_f a5 (br_t a6 (rb_y48 E1 hn h1 h2))))))
  have bad : ∀ k, k < n → ¬ rb_sy v4 k < nI A → (∀ k, k < n → ∃ c, c < A ∧ rb_sy v4 k = nI c) → False := by
    intro j hj z hall
    obtain ⟨c, hc, ec⟩ := hall j hj
    exact z (by rw [ec]; exact nI_lt hc (by omega))
  refine br_f a1 (br_t a2 (br_f a3 (br_t a4 (br_f a5 (br_t a6 (rb_xas E1 hn (fun hsy => br_f (by decide) ?_) (fun hsy => br_t rfl ?_)))))))
  · have X68 : ¬ (del = 0 ∧ n = 0) → wX_splice_68 (fun r u' => wpY_splice (fun r' v' => r' = r ∧ i_Rel (k + 5) u' v') (nI cap, nI Q, nI A, nI Z, nI L, nI e, nI T, oc, ed, kd, nx, so, tx, nt, tS, tE, tK, tM, tR, tB, tA, yS, yM, yR, yB) (nI pos) (nI del) (nI n) v4) (nI pos) (nI del) (nI n) v4 (nI cap) (nI Q) (nI A) (nI Z) (nI L) (nI T) me (nI e) ed kd nx so tx tl tok xM xR xB := by
      intro hne
      have hz : ∀ {P R : Prop}, R → ((nI del = 0 → ((nI n = 0 → P) ∧ (¬ nI n = 0 → R))) ∧ (¬ nI del = 0 → R)) := fun r => pk_eq del 0 (fun z1 => pk_eq n 0 (fun z2 => absurd ⟨z1, z2⟩ hne) (fun _ => r)) (fun _ => r)
      by_cases hc : L - del + n ≤ cap
      · have E'' : rb_Env ed nx so (rb_nt tx (rb_sy v4) L pos del n) A (L - del + n) Q Z := ⟨E1, E2, E3, by omega, E5, E6, E7, rb_nt_in hd E8 hsy⟩
        obtain ⟨T', S', M', K, lk, hs⟩ := rb_Seq_ex (kd := kd) E'' (by omega)
        have hs' := hs
        obtain ⟨s1, s2, s3, s4, s5, s6⟩ := hs'
        refine rb_x68 c6 c2 E3 (by omega) E'' hs ht hl hd hn hc (fun tl' tok' xM' xR' xB' hC hB => YW _ (fun _ => hz (rb_y90 c6 c2 E3 (by omega) E'' hs hl hd hn hc (fun nt' tS' tE' tK' tM' tR' tB' tA' yS' yM' yR' yB' hC' hB' => ⟨rfl, rb_mk (S := S') (M := M') (B := fun i => rb_bn T S M tR B pos del n e (S' i) (M' i)) ⟨⟨c1, c2, c3, c4, c5, hc, by omega⟩, E'', ?_, ⟨s1, s4, fun i hi => (s6 i hi).2.2.1, ?_⟩, ?_, ?_⟩⟩))) (fun hb => ?_))
        · intro i hi
          obtain ⟨x1, x2, x3, x4, x5⟩ := hC i hi
          obtain ⟨y1, y2, y3, y4, y5, y6⟩ := hC' i hi
          exact ⟨x1.trans y1.symm, x2.trans y2.symm, x3.trans y3.symm, x4.trans y4.symm, x5.trans y5.symm, (hB i hi).trans (hB' i hi).symm⟩
        · intro i hi
          obtain ⟨y1, y2, y3, y4, y5, y6⟩ := hC' i hi
          exact ⟨y1, y2, y4, hB' i hi, (s6 i hi).2.1, rb_bn_le (fun j hj => (hl.2.2.2 j hj).2.2.2.2.2)⟩
        · intro z
          rw [z, s2]
          rfl
        · intro i z
          have y6 := (hC' i (by omega)).2.2.2.2.2
          rw [y6, z]
        · obtain ⟨j, hj, z⟩ := hb
          exact absurd hsy (fun hall => bad j hj z hall)
      · have ef : nI L - nI del + nI n = nI (L - del + n) := by rw [pk_sub (by omega), nI_add]
        have hf : ¬ nI L - nI del + nI n ≤ nI cap := by rw [ef]; exact nI_ge (by omega) (by omega)
        refine br_f hf (YW _ (fun _ => hz (nm_e (br_f hf ⟨rfl, J⟩))) (fun hb => ?_))
        obtain ⟨j, hj, z⟩ := hb
        exact absurd hsy (fun hall => bad j hj z hall)
    refine pk_eq del 0 (fun z1 => pk_eq n 0 (fun z2 => ?_) (fun z2 => X68 (fun z => z2 z.2))) (fun z1 => X68 (fun z => z1 z.1))
    subst z1 z2
    refine YW _ (fun _ => br_t rfl (br_t rfl ⟨rfl, J⟩)) (fun hb => ?_)
    obtain ⟨j, hj, z⟩ := hb
    omega
  · refine YW _ (fun hall => ?_) (fun _ => ⟨rfl, J⟩)
    obtain ⟨j, hj, z⟩ := hsy
    exact absurd hall (fun hall => bad j hj z hall)
