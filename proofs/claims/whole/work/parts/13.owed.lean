/-! the owed statements of the other methods -/
theorem i_vc_setEdges {k : Nat} {u : SX} {v : SY} (I : i_Rel k u v) (hk : k + 5 ≤ 2564) (v1 : Int32) (v2 : Int32) (v3 : Int32) : wpX_setEdges (fun r u' => wpY_setEdges (fun r' v' => r' = r ∧ i_Rel (k + 5) u' v') v v1 v2 v3) u v1 v2 v3 := by
  obtain ⟨cap, Q, A, Z, L, T, e, me, oc, ed, kd, nx, so, tx, tl, tok, xM, xR, xB, nt, tS, tE, tK, tM, tR, tB, tA, yS, yM, yR, yB, S, M, B, rfl, rfl, h⟩ := I
  have J : i_Rel (k + 5) (nI cap, nI Q, nI A, nI Z, nI L, nI T, me, nI e, ed, kd, nx, so, tx, tl, tok, xM, xR, xB) (nI cap, nI Q, nI A, nI Z, nI L, nI e, nI T, oc, ed, kd, nx, so, tx, nt, tS, tE, tK, tM, tR, tB, tA, yS, yM, yR, yB) := rb_mk (rb_C_up h)
  obtain ⟨⟨c1, c2, c3, c4, c5, c6, c7⟩, E, ht, hl, hm0, hm1⟩ := h
  have E' := E
  obtain ⟨E1, E2, E3, E4, E5, E6, E7, E8⟩ := E'
  have UP : ∀ s : Nat, (v3 = -1 ∨ ∃ j, j < Q ∧ v3 = nI j) → i_Rel (k + 5) (nI cap, nI Q, nI A, nI Z, nI L, nI T, me, nI e, rb_se ed s v2 v3 A, kd, nx, so, tx, tl, tok, xM, xR, xB) (nI cap, nI Q, nI A, nI Z, nI L, nI e, nI T, oc, rb_se ed s v2 v3 A, kd, nx, so, tx, nt, tS, tE, tK, tM, tR, tB, tA, yS, yM, yR, yB) := fun s h3 =>
    rb_mk (rb_C_up ⟨⟨c1, c2, c3, c4, c5, c6, c7⟩, ⟨E1, E2, E3, E4, fun i => rb_se_in E5 h3 A i, E6, E7, E8⟩, ht, hl, hm0, hm1⟩)
  unfold wpX_setEdges
  refine rb_xst E2 (fun a => br_t rfl (br_t a ⟨rfl, J⟩)) (fun a b => br_t rfl (br_f a (br_f (Int32.not_lt.mpr b) ⟨rfl, J⟩))) (fun s hs es => br_f (by decide) ?_)
  subst es
  have s1 : ¬ nI s < 0 := nI_pos (by omega)
  have s2 : nI s < nI Q := nI_lt hs (by omega)
  by_cases a1 : v2 < 1
  · exact br_t a1 (br_f s1 (br_t s2 (br_t a1 ⟨rfl, J⟩)))
  by_cases a2 : v2 ≤ (((1 : Int32) <<< (nI A &&& 31)) - 1)
  rotate_left
  · exact br_f a1 (br_f a2 (br_f s1 (br_t s2 (br_f a1 (br_f a2 ⟨rfl, J⟩)))))
  have X47 : (v3 = -1 ∨ ∃ j, j < Q ∧ v3 = nI j) → (∀ post : Int32 → SY → Prop, wY_setEdges_55 post (nI s) v2 v3 (nI cap) (nI Q) (nI A) (nI Z) (nI L) (nI e) (nI T) oc ed kd nx so tx nt tS tE tK tM tR tB tA yS yM yR yB → wpY_setEdges post (nI cap, nI Q, nI A, nI Z, nI L, nI e, nI T, oc, ed, kd, nx, so, tx, nt, tS, tE, tK, tM, tR, tB, tA, yS, yM, yR, yB) (nI s) v2 v3) → wX_setEdges_47 (fun r u' => wpY_setEdges (fun r' v' => r' = r ∧ i_Rel (k + 5) u' v') (nI cap, nI Q, nI A, nI Z, nI L, nI e, nI T, oc, ed, kd, nx, so, tx, nt, tS, tE, tK, tM, tR, tB, tA, yS, yM, yR, yB) (nI s) v2 v3) (nI s) v2 v3 (nI cap) (nI Q) (nI A) (nI Z) (nI L) (nI T) me (nI e) ed kd nx so tx tl tok xM xR xB := by
    intro h3 hY
    refine pk_eq L 0 (fun z => rb_x60 E1 (by omega) (hY _ (pk_le L 0 (fun _ => rb_y68 E1 (by omega) ⟨rfl, UP s h3⟩) (fun z' => absurd z' (by omega))))) (fun z => hY _ (pk_le L 0 (fun z' => absurd z' (by omega)) (fun _ => ⟨rfl, J⟩)))
  by_cases a3 : v3 = -1
  · exact br_f a1 (br_t a2 (br_t a3 (X47 (Or.inl a3) (fun post w => br_f s1 (br_t s2 (br_f a1 (br_t a2 (br_t a3 w))))))))
  · refine br_f a1 (br_t a2 (br_f a3 (rb_xst E2 (fun a => br_t rfl (br_f s1 (br_t s2 (br_f a1 (br_t a2 (br_f a3 (br_t a ⟨rfl, J⟩))))))) (fun a b => br_t rfl (br_f s1 (br_t s2 (br_f a1 (br_t a2 (br_f a3 (br_f a (br_f (Int32.not_lt.mpr b) ⟨rfl, J⟩)))))))) (fun j hj ej => br_f (by decide) (X47 (Or.inr ⟨j, hj, ej⟩) (fun post w => br_f s1 (br_t s2 (br_f a1 (br_t a2 (br_f a3 ?_)))))))))) 
    rw [ej] at w ⊢
    exact br_f (nI_pos (by omega)) (br_t (nI_lt hj (by omega)) w)
theorem i_vc_setAccept {k : Nat} {u : SX} {v : SY} (I : i_Rel k u v) (hk : k + 5 ≤ 2564) (v1 : Int32) (v2 : Int32) (v3 : Int32) : wpX_setAccept (fun r u' => wpY_setAccept (fun r' v' => r' = r ∧ i_Rel (k + 5) u' v') v v1 v2 v3) u v1 v2 v3 := by
  obtain ⟨cap, Q, A, Z, L, T, e, me, oc, ed, kd, nx, so, tx, tl, tok, xM, xR, xB, nt, tS, tE, tK, tM, tR, tB, tA, yS, yM, yR, yB, S, M, B, rfl, rfl, h⟩ := I
  have J : i_Rel (k + 5) (nI cap, nI Q, nI A, nI Z, nI L, nI T, me, nI e, ed, kd, nx, so, tx, tl, tok, xM, xR, xB) (nI cap, nI Q, nI A, nI Z, nI L, nI e, nI T, oc, ed, kd, nx, so, tx, nt, tS, tE, tK, tM, tR, tB, tA, yS, yM, yR, yB) := rb_mk (rb_C_up h)
  obtain ⟨⟨c1, c2, c3, c4, c5, c6, c7⟩, E, ht, hl, hm0, hm1⟩ := h
  have E' := E
  obtain ⟨E1, E2, E3, E4, E5, E6, E7, E8⟩ := E'
  have UP : ∀ (s : Nat) (w : Int32), (w = -1 ∨ ∃ j, j < Z ∧ w = nI j) → i_Rel (k + 5) (nI cap, nI Q, nI A, nI Z, nI L, nI T, me, nI e, ed, upd kd s v2, upd nx s w, so, tx, tl, tok, xM, xR, xB) (nI cap, nI Q, nI A, nI Z, nI L, nI e, nI T, oc, ed, upd kd s v2, upd nx s w, so, tx, nt, tS, tE, tK, tM, tR, tB, tA, yS, yM, yR, yB) := fun s w h3 =>
    rb_mk (rb_C_up ⟨⟨c1, c2, c3, c4, c5, c6, c7⟩, ⟨E1, E2, E3, E4, E5, fun i => by
      by_cases ei : i = s
      · rw [ei, pk_us]; exact h3
      · rw [pk_un ei]; exact E6 i, E7, E8⟩, ht, hl, hm0, hm1⟩)
  unfold wpX_setAccept
  refine rb_xst E2 (fun a => br_t rfl (br_t a ⟨rfl, J⟩)) (fun a b => br_t rfl (br_f a (br_f (Int32.not_lt.mpr b) ⟨rfl, J⟩))) (fun s hs es => br_f (by decide) ?_)
  subst es
  have s1 : ¬ nI s < 0 := nI_pos (by omega)
  have s2 : nI s < nI Q := nI_lt hs (by omega)
  have hs' : s < 2 ^ 31 := by omega
  have hv : vp_in (nI s) 16 := pk_in s 16 (by omega)
  by_cases a1 : v2 < 0
  · exact br_t a1 (br_f s1 (br_t s2 (br_t a1 ⟨rfl, J⟩)))
  by_cases a2 : v2 ≤ 15
  rotate_left
  · exact br_f a1 (br_f a2 (br_f s1 (br_t s2 (br_f a1 (br_f a2 ⟨rfl, J⟩)))))
  have X40 : (v3 = -1 ∨ ∃ j, j < Z ∧ v3 = nI j) → (∀ post : Int32 → SY → Prop, wY_setAccept_48 post (nI s) v2 v3 (nI cap) (nI Q) (nI A) (nI Z) (nI L) (nI e) (nI T) oc ed kd nx so tx nt tS tE tK tM tR tB tA yS yM yR yB → wpY_setAccept post (nI cap, nI Q, nI A, nI Z, nI L, nI e, nI T, oc, ed, kd, nx, so, tx, nt, tS, tE, tK, tM, tR, tB, tA, yS, yM, yR, yB) (nI s) v2 v3) → wX_setAccept_40 (fun r u' => wpY_setAccept (fun r' v' => r' = r ∧ i_Rel (k + 5) u' v') (nI cap, nI Q, nI A, nI Z, nI L, nI e, nI T, oc, ed, kd, nx, so, tx, nt, tS, tE, tK, tM, tR, tB, tA, yS, yM, yR, yB) (nI s) v2 v3) (nI s) v2 v3 (nI cap) (nI Q) (nI A) (nI Z) (nI L) (nI T) me (nI e) ed kd nx so tx tl tok xM xR xB := by
    intro h3 hY
    refine pk_eq L 0 (fun z => ⟨hv, nm_r (rb_ucl rfl hs' rfl) (br_c (fun g => ⟨hv, nm_r (rb_ucl rfl hs' rfl) (hY _ (pk_le L 0 (fun _ => ⟨hv, nm_r (rb_ucl rfl hs' rfl) (br_t g ⟨hv, nm_r (rb_ucl rfl hs' rfl) ⟨rfl, UP s (-1) (Or.inl rfl)⟩⟩)⟩) (fun z' => absurd z' (by omega))))⟩)
      (fun g => ⟨hv, nm_r (rb_ucl rfl hs' rfl) (hY _ (pk_le L 0 (fun _ => ⟨hv, nm_r (rb_ucl rfl hs' rfl) (br_f g ⟨hv, nm_r (rb_ucl rfl hs' rfl) ⟨rfl, UP s v3 h3⟩⟩)⟩) (fun z' => absurd z' (by omega))))⟩))⟩) (fun z => hY _ (pk_le L 0 (fun z' => absurd z' (by omega)) (fun _ => ⟨rfl, J⟩)))
  by_cases a3 : v3 = -1
  · exact br_f a1 (br_t a2 (br_t a3 (X40 (Or.inl a3) (fun post w => br_f s1 (br_t s2 (br_f a1 (br_t a2 (br_t a3 w))))))))
  · refine br_f a1 (br_t a2 (br_f a3 (rb_xmo E3 (fun a => br_t rfl (br_f s1 (br_t s2 (br_f a1 (br_t a2 (br_f a3 (br_t a ⟨rfl, J⟩))))))) (fun a b => br_t rfl (br_f s1 (br_t s2 (br_f a1 (br_t a2 (br_f a3 (br_f a (br_f (Int32.not_lt.mpr b) ⟨rfl, J⟩)))))))) (fun j hj ej => br_f (by decide) (X40 (Or.inr ⟨j, hj, ej⟩) (fun post w => br_f s1 (br_t s2 (br_f a1 (br_t a2 (br_f a3 ?_))))))))))
    rw [ej] at w ⊢
    exact br_f (nI_pos (by omega)) (br_t (nI_lt hj (by omega)) w)
theorem i_vc_setStart {k : Nat} {u : SX} {v : SY} (I : i_Rel k u v) (hk : k + 5 ≤ 2564) (v1 : Int32) (v2 : Int32) : wpX_setStart (fun r u' => wpY_setStart (fun r' v' => r' = r ∧ i_Rel (k + 5) u' v') v v1 v2) u v1 v2 := by
  obtain ⟨cap, Q, A, Z, L, T, e, me, oc, ed, kd, nx, so, tx, tl, tok, xM, xR, xB, nt, tS, tE, tK, tM, tR, tB, tA, yS, yM, yR, yB, S, M, B, rfl, rfl, h⟩ := I
  have J : i_Rel (k + 5) (nI cap, nI Q, nI A, nI Z, nI L, nI T, me, nI e, ed, kd, nx, so, tx, tl, tok, xM, xR, xB) (nI cap, nI Q, nI A, nI Z, nI L, nI e, nI T, oc, ed, kd, nx, so, tx, nt, tS, tE, tK, tM, tR, tB, tA, yS, yM, yR, yB) := rb_mk (rb_C_up h)
  obtain ⟨⟨c1, c2, c3, c4, c5, c6, c7⟩, E, ht, hl, hm0, hm1⟩ := h
  have E' := E
  obtain ⟨E1, E2, E3, E4, E5, E6, E7, E8⟩ := E'
  unfold wpX_setStart
  refine rb_xmo E3 (fun a => br_t rfl (br_t a ⟨rfl, J⟩)) (fun a b => br_t rfl (br_f a (br_f (Int32.not_lt.mpr b) ⟨rfl, J⟩))) (fun m hm em => br_f (by decide) ?_)
  subst em
  have s1 : ¬ nI m < 0 := nI_pos (by omega)
  have s2 : nI m < nI Z := nI_lt hm (by omega)
  have hm' : m < 2 ^ 31 := by omega
  have hv : vp_in (nI m) 4 := pk_in m 4 (by omega)
  refine rb_xst E2 (fun a => br_t rfl (br_f s1 (br_t s2 (br_t a ⟨rfl, J⟩)))) (fun a b => br_t rfl (br_f s1 (br_t s2 (br_f a (br_f (Int32.not_lt.mpr b) ⟨rfl, J⟩))))) (fun j hj ej => br_f (by decide) ?_)
  subst ej
  have t1 : ¬ nI j < 0 := nI_pos (by omega)
  have t2 : nI j < nI Q := nI_lt hj (by omega)
  refine pk_eq L 0 (fun z => ⟨hv, nm_r (rb_ucl rfl hm' rfl) (br_f s1 (br_t s2 (br_f t1 (br_t t2 (pk_le L 0 (fun _ => ⟨hv, nm_r (rb_ucl rfl hm' rfl) ⟨rfl, rb_mk (rb_C_up ⟨⟨c1, c2, c3, c4, c5, c6, c7⟩, ⟨E1, E2, E3, E4, E5, E6, ?_, E8⟩, ht, hl, hm0, hm1⟩)⟩⟩) (fun z' => absurd z' (by omega)))))))⟩) (fun z => br_f s1 (br_t s2 (br_f t1 (br_t t2 (pk_le L 0 (fun z' => absurd z' (by omega)) (fun _ => ⟨rfl, J⟩))))))
  intro i
  by_cases ei : i = m
  · rw [ei, pk_us]; exact ⟨j, hj, rfl⟩
  · rw [pk_un ei]; exact E7 i
theorem i_vc_edge {k : Nat} {u : SX} {v : SY} (I : i_Rel k u v) (hk : k + 5 ≤ 2564) (v1 : Int32) (v2 : Int32) : wpX_edge (fun r => wpY_edge (fun r' => r' = r ∧ i_Rel (k + 5) u v) v v1 v2) u v1 v2 := by
  obtain ⟨cap, Q, A, Z, L, T, e, me, oc, ed, kd, nx, so, tx, tl, tok, xM, xR, xB, nt, tS, tE, tK, tM, tR, tB, tA, yS, yM, yR, yB, S, M, B, rfl, rfl, h⟩ := I
  have J : i_Rel (k + 5) (nI cap, nI Q, nI A, nI Z, nI L, nI T, me, nI e, ed, kd, nx, so, tx, tl, tok, xM, xR, xB) (nI cap, nI Q, nI A, nI Z, nI L, nI e, nI T, oc, ed, kd, nx, so, tx, nt, tS, tE, tK, tM, tR, tB, tA, yS, yM, yR, yB) := rb_mk (rb_C_up h)
  obtain ⟨⟨c1, c2, c3, c4, c5, c6, c7⟩, E, ht, hl, hm0, hm1⟩ := h
  have E' := E
  obtain ⟨E1, E2, E3, E4, E5, E6, E7, E8⟩ := E'
  unfold wpX_edge
  refine rb_xst E2 (fun a => br_t rfl (br_t a ⟨rfl, J⟩)) (fun a b => br_t rfl (br_f a (br_t b ⟨rfl, J⟩))) (fun s hs es => br_f (by decide) ?_)
  subst es
  have s1 : ¬ nI s < 0 := nI_pos (by omega)
  have s2 : ¬ nI Q ≤ nI s := nI_ge hs (by omega)
  refine rb_xsm E1 (fun a => br_t rfl (br_f s1 (br_f s2 (br_t a ⟨rfl, J⟩)))) (fun a b => br_t rfl (br_f s1 (br_f s2 (br_f a (br_f (Int32.not_lt.mpr b) ⟨rfl, J⟩))))) (fun c hc ec => br_f (by decide) ?_)
  subst ec
  have hv : vp_in (nI s * 8 + nI c) 128 := pk_in (s * 8 + c) 128 (by omega) (rb_i8 s c)
  exact ⟨hv, br_f s1 (br_f s2 (br_f (nI_pos (by omega)) (br_t (nI_lt hc (by omega)) ⟨hv, rfl, J⟩)))⟩
theorem i_vc_acceptKind {k : Nat} {u : SX} {v : SY} (I : i_Rel k u v) (hk : k + 5 ≤ 2564) (v1 : Int32) : wpX_acceptKind (fun r => wpY_acceptKind (fun r' => r' = r ∧ i_Rel (k + 5) u v) v v1) u v1 := by
  obtain ⟨cap, Q, A, Z, L, T, e, me, oc, ed, kd, nx, so, tx, tl, tok, xM, xR, xB, nt, tS, tE, tK, tM, tR, tB, tA, yS, yM, yR, yB, S, M, B, rfl, rfl, h⟩ := I
  have J : i_Rel (k + 5) (nI cap, nI Q, nI A, nI Z, nI L, nI T, me, nI e, ed, kd, nx, so, tx, tl, tok, xM, xR, xB) (nI cap, nI Q, nI A, nI Z, nI L, nI e, nI T, oc, ed, kd, nx, so, tx, nt, tS, tE, tK, tM, tR, tB, tA, yS, yM, yR, yB) := rb_mk (rb_C_up h)
  obtain ⟨⟨c1, c2, c3, c4, c5, c6, c7⟩, E, ht, hl, hm0, hm1⟩ := h
  have E' := E
  obtain ⟨E1, E2, E3, E4, E5, E6, E7, E8⟩ := E'
  unfold wpX_acceptKind
  refine rb_xst E2 (fun a => br_t rfl (br_t a ⟨rfl, J⟩)) (fun a b => br_t rfl (br_f a (br_f (Int32.not_lt.mpr b) ⟨rfl, J⟩))) (fun s hs es => br_f (by decide) ?_)
  subst es
  have hv : vp_in (nI s) 16 := pk_in s 16 (by omega)
  exact ⟨hv, br_f (nI_pos (by omega)) (br_t (nI_lt hs (by omega)) ⟨hv, rfl, J⟩)⟩
theorem i_vc_acceptMode {k : Nat} {u : SX} {v : SY} (I : i_Rel k u v) (hk : k + 5 ≤ 2564) (v1 : Int32) : wpX_acceptMode (fun r => wpY_acceptMode (fun r' => r' = r ∧ i_Rel (k + 5) u v) v v1) u v1 := by
  obtain ⟨cap, Q, A, Z, L, T, e, me, oc, ed, kd, nx, so, tx, tl, tok, xM, xR, xB, nt, tS, tE, tK, tM, tR, tB, tA, yS, yM, yR, yB, S, M, B, rfl, rfl, h⟩ := I
  have J : i_Rel (k + 5) (nI cap, nI Q, nI A, nI Z, nI L, nI T, me, nI e, ed, kd, nx, so, tx, tl, tok, xM, xR, xB) (nI cap, nI Q, nI A, nI Z, nI L, nI e, nI T, oc, ed, kd, nx, so, tx, nt, tS, tE, tK, tM, tR, tB, tA, yS, yM, yR, yB) := rb_mk (rb_C_up h)
  obtain ⟨⟨c1, c2, c3, c4, c5, c6, c7⟩, E, ht, hl, hm0, hm1⟩ := h
  have E' := E
  obtain ⟨E1, E2, E3, E4, E5, E6, E7, E8⟩ := E'
  unfold wpX_acceptMode
  refine rb_xst E2 (fun a => br_t rfl (br_t a ⟨rfl, J⟩)) (fun a b => br_t rfl (br_f a (br_f (Int32.not_lt.mpr b) ⟨rfl, J⟩))) (fun s hs es => br_f (by decide) ?_)
  subst es
  have hv : vp_in (nI s) 16 := pk_in s 16 (by omega)
  exact ⟨hv, br_f (nI_pos (by omega)) (br_t (nI_lt hs (by omega)) ⟨hv, rfl, J⟩)⟩
theorem i_vc_start {k : Nat} {u : SX} {v : SY} (I : i_Rel k u v) (hk : k + 5 ≤ 2564) (v1 : Int32) : wpX_start (fun r => wpY_start (fun r' => r' = r ∧ i_Rel (k + 5) u v) v v1) u v1 := by
  obtain ⟨cap, Q, A, Z, L, T, e, me, oc, ed, kd, nx, so, tx, tl, tok, xM, xR, xB, nt, tS, tE, tK, tM, tR, tB, tA, yS, yM, yR, yB, S, M, B, rfl, rfl, h⟩ := I
  have J : i_Rel (k + 5) (nI cap, nI Q, nI A, nI Z, nI L, nI T, me, nI e, ed, kd, nx, so, tx, tl, tok, xM, xR, xB) (nI cap, nI Q, nI A, nI Z, nI L, nI e, nI T, oc, ed, kd, nx, so, tx, nt, tS, tE, tK, tM, tR, tB, tA, yS, yM, yR, yB) := rb_mk (rb_C_up h)
  obtain ⟨⟨c1, c2, c3, c4, c5, c6, c7⟩, E, ht, hl, hm0, hm1⟩ := h
  have E' := E
  obtain ⟨E1, E2, E3, E4, E5, E6, E7, E8⟩ := E'
  unfold wpX_start
  refine rb_xmo E3 (fun a => br_t rfl (br_t a ⟨rfl, J⟩)) (fun a b => br_t rfl (br_f a (br_f (Int32.not_lt.mpr b) ⟨rfl, J⟩))) (fun s hs es => br_f (by decide) ?_)
  subst es
  have hv : vp_in (nI s) 4 := pk_in s 4 (by omega)
  exact ⟨hv, br_f (nI_pos (by omega)) (br_t (nI_lt hs (by omega)) ⟨hv, rfl, J⟩)⟩
theorem i_vc_edits {k : Nat} {u : SX} {v : SY} (I : i_Rel k u v) (hk : k + 5 ≤ 2564) : wpX_edits (fun r => wpY_edits (fun r' => r' = r ∧ i_Rel (k + 5) u v) v) u := by
  obtain ⟨cap, Q, A, Z, L, T, e, me, oc, ed, kd, nx, so, tx, tl, tok, xM, xR, xB, nt, tS, tE, tK, tM, tR, tB, tA, yS, yM, yR, yB, S, M, B, rfl, rfl, h⟩ := I
  have J : i_Rel (k + 5) (nI cap, nI Q, nI A, nI Z, nI L, nI T, me, nI e, ed, kd, nx, so, tx, tl, tok, xM, xR, xB) (nI cap, nI Q, nI A, nI Z, nI L, nI e, nI T, oc, ed, kd, nx, so, tx, nt, tS, tE, tK, tM, tR, tB, tA, yS, yM, yR, yB) := rb_mk (rb_C_up h)
  obtain ⟨⟨c1, c2, c3, c4, c5, c6, c7⟩, E, ht, hl, hm0, hm1⟩ := h
  have E' := E
  obtain ⟨E1, E2, E3, E4, E5, E6, E7, E8⟩ := E'
  exact ⟨rfl, J⟩
theorem i_vc_length {k : Nat} {u : SX} {v : SY} (I : i_Rel k u v) (hk : k + 5 ≤ 2564) : wpX_length (fun r => wpY_length (fun r' => r' = r ∧ i_Rel (k + 5) u v) v) u := by
  obtain ⟨cap, Q, A, Z, L, T, e, me, oc, ed, kd, nx, so, tx, tl, tok, xM, xR, xB, nt, tS, tE, tK, tM, tR, tB, tA, yS, yM, yR, yB, S, M, B, rfl, rfl, h⟩ := I
  have J : i_Rel (k + 5) (nI cap, nI Q, nI A, nI Z, nI L, nI T, me, nI e, ed, kd, nx, so, tx, tl, tok, xM, xR, xB) (nI cap, nI Q, nI A, nI Z, nI L, nI e, nI T, oc, ed, kd, nx, so, tx, nt, tS, tE, tK, tM, tR, tB, tA, yS, yM, yR, yB) := rb_mk (rb_C_up h)
  obtain ⟨⟨c1, c2, c3, c4, c5, c6, c7⟩, E, ht, hl, hm0, hm1⟩ := h
  have E' := E
  obtain ⟨E1, E2, E3, E4, E5, E6, E7, E8⟩ := E'
  exact ⟨rfl, J⟩
theorem i_vc_tokenCount {k : Nat} {u : SX} {v : SY} (I : i_Rel k u v) (hk : k + 5 ≤ 2564) : wpX_tokenCount (fun r => wpY_tokenCount (fun r' => r' = r ∧ i_Rel (k + 5) u v) v) u := by
  obtain ⟨cap, Q, A, Z, L, T, e, me, oc, ed, kd, nx, so, tx, tl, tok, xM, xR, xB, nt, tS, tE, tK, tM, tR, tB, tA, yS, yM, yR, yB, S, M, B, rfl, rfl, h⟩ := I
  have J : i_Rel (k + 5) (nI cap, nI Q, nI A, nI Z, nI L, nI T, me, nI e, ed, kd, nx, so, tx, tl, tok, xM, xR, xB) (nI cap, nI Q, nI A, nI Z, nI L, nI e, nI T, oc, ed, kd, nx, so, tx, nt, tS, tE, tK, tM, tR, tB, tA, yS, yM, yR, yB) := rb_mk (rb_C_up h)
  obtain ⟨⟨c1, c2, c3, c4, c5, c6, c7⟩, E, ht, hl, hm0, hm1⟩ := h
  have E' := E
  obtain ⟨E1, E2, E3, E4, E5, E6, E7, E8⟩ := E'
  exact ⟨rfl, J⟩
theorem i_vc_symbolAt {k : Nat} {u : SX} {v : SY} (I : i_Rel k u v) (hk : k + 5 ≤ 2564) (v1 : Int32) : wpX_symbolAt (fun r => wpY_symbolAt (fun r' => r' = r ∧ i_Rel (k + 5) u v) v v1) u v1 := by
  obtain ⟨cap, Q, A, Z, L, T, e, me, oc, ed, kd, nx, so, tx, tl, tok, xM, xR, xB, nt, tS, tE, tK, tM, tR, tB, tA, yS, yM, yR, yB, S, M, B, rfl, rfl, h⟩ := I
  have J : i_Rel (k + 5) (nI cap, nI Q, nI A, nI Z, nI L, nI T, me, nI e, ed, kd, nx, so, tx, tl, tok, xM, xR, xB) (nI cap, nI Q, nI A, nI Z, nI L, nI e, nI T, oc, ed, kd, nx, so, tx, nt, tS, tE, tK, tM, tR, tB, tA, yS, yM, yR, yB) := rb_mk (rb_C_up h)
  obtain ⟨⟨c1, c2, c3, c4, c5, c6, c7⟩, E, ht, hl, hm0, hm1⟩ := h
  have E' := E
  obtain ⟨E1, E2, E3, E4, E5, E6, E7, E8⟩ := E'
  rcases rb_c3 v1 (Q := L) (by omega) with ⟨a, _, _, _⟩ | ⟨a, _, _, b⟩ | ⟨j, hj, rfl, a, _, _, b⟩
  · exact br_t a (br_t a ⟨rfl, J⟩)
  · exact br_f a (br_f b (br_f a (br_f b ⟨rfl, J⟩)))
  · have hv : vp_in (nI j) 64 := pk_in j 64 (by omega)
    exact br_f a (br_t b ⟨hv, br_f a (br_t b ⟨hv, rfl, J⟩)⟩)
theorem i_vc_token {k : Nat} {u : SX} {v : SY} (I : i_Rel k u v) (hk : k + 5 ≤ 2564) (v1 : Int32) (v2 : Int32) : wpX_token (fun r => wpY_token (fun r' => r' = r ∧ i_Rel (k + 5) u v) v v1 v2) u v1 v2 := by
  obtain ⟨cap, Q, A, Z, L, T, e, me, oc, ed, kd, nx, so, tx, tl, tok, xM, xR, xB, nt, tS, tE, tK, tM, tR, tB, tA, yS, yM, yR, yB, S, M, B, rfl, rfl, h⟩ := I
  have J : i_Rel (k + 5) (nI cap, nI Q, nI A, nI Z, nI L, nI T, me, nI e, ed, kd, nx, so, tx, tl, tok, xM, xR, xB) (nI cap, nI Q, nI A, nI Z, nI L, nI e, nI T, oc, ed, kd, nx, so, tx, nt, tS, tE, tK, tM, tR, tB, tA, yS, yM, yR, yB) := rb_mk (rb_C_up h)
  obtain ⟨⟨c1, c2, c3, c4, c5, c6, c7⟩, E, ht, hl, hm0, hm1⟩ := h
  have E' := E
  obtain ⟨E1, E2, E3, E4, E5, E6, E7, E8⟩ := E'
  have hT := rb_Lst_T hl
  rcases rb_c3 v1 (Q := T) (by omega) with ⟨a, _, _, _⟩ | ⟨a, _, _, b⟩ | ⟨i, hi, rfl, a, _, _, b⟩
  · exact br_t a (br_t a ⟨rfl, J⟩)
  · exact br_f a (br_f b (br_f a (br_f b ⟨rfl, J⟩)))
  · obtain ⟨o1, o2, o3, o4, o5, o6⟩ := ht i hi
    have hv : vp_in (nI i) 64 := pk_in i 64 (by omega)
    have hi' : i < 2 ^ 31 := by omega
    rcases rb_c3 v2 (Q := 6) (by omega) with ⟨c, _, _, _⟩ | ⟨c, _, _, d⟩ | ⟨f, hf, rfl, c, _, _, d⟩
    · have n : ∀ w : Int32, ¬ w < 0 → ¬ v2 = w := fun w hw z => hw (z ▸ c)
      exact br_f a (br_t b (br_t c (br_f a (br_t b (br_f (n 0 (by decide)) (br_f (n 1 (by decide)) (br_f (n 2 (by decide)) (br_f (n 3 (by decide)) (br_f (n 4 (by decide)) (br_f (n 5 (by decide)) ⟨rfl, J⟩))))))))))
    · have n : ∀ w : Int32, w < nI 6 → ¬ v2 = w := fun w hw z => d (z.symm ▸ hw)
      exact br_f a (br_t b (br_f c (br_f d (br_f a (br_t b (br_f (n 0 (by decide)) (br_f (n 1 (by decide)) (br_f (n 2 (by decide)) (br_f (n 3 (by decide)) (br_f (n 4 (by decide)) (br_f (n 5 (by decide)) ⟨rfl, J⟩)))))))))))
    · refine br_f a (br_t b (br_f c (br_t d ⟨pk_in (i * 6 + f) 384 (by omega) (rb_i6 i f), br_f a (br_t b ?_)⟩)))
      have r : ∀ (x w : Int32), w = x → tok (i * 6 + f) = x → w = tok (nI i * 6 + nI f).toNatClampNeg := fun x w h1 h2 => h1.trans (rb_rd (rb_i6 i f) (by omega) h2).symm
      match f, hf, r with
      | 0, _, r => exact br_t rfl ⟨hv, r _ _ (rb_rcl rfl hi') o1, J⟩
      | 1, _, r => exact br_f (by decide) (br_t rfl ⟨hv, r _ _ (rb_rcl rfl hi') o2, J⟩)
      | 2, _, r => exact br_f (by decide) (br_f (by decide) (br_t rfl ⟨hv, r _ _ (rb_rcl rfl hi') o3, J⟩))
      | 3, _, r => exact br_f (by decide) (br_f (by decide) (br_f (by decide) (br_t rfl ⟨hv, r _ _ (rb_rcl rfl hi') o4, J⟩)))
      | 4, _, r => exact br_f (by decide) (br_f (by decide) (br_f (by decide) (br_f (by decide) (br_t rfl ⟨hv, r _ _ (rb_rcl rfl hi') o5, J⟩))))
      | 5, _, r => exact br_f (by decide) (br_f (by decide) (br_f (by decide) (br_f (by decide) (br_f (by decide) (br_t rfl ⟨hv, r _ _ (rb_rcl rfl hi') o6, J⟩)))))
theorem i_vc_tokenAt {k : Nat} {u : SX} {v : SY} (I : i_Rel k u v) (hk : k + 5 ≤ 2564) (v1 : Int32) : wpX_tokenAt (fun r => wpY_tokenAt (fun r' => r' = r ∧ i_Rel (k + 5) u v) v v1) u v1 := by
  obtain ⟨cap, Q, A, Z, L, T, e, me, oc, ed, kd, nx, so, tx, tl, tok, xM, xR, xB, nt, tS, tE, tK, tM, tR, tB, tA, yS, yM, yR, yB, S, M, B, rfl, rfl, h⟩ := I
  have J : i_Rel (k + 5) (nI cap, nI Q, nI A, nI Z, nI L, nI T, me, nI e, ed, kd, nx, so, tx, tl, tok, xM, xR, xB) (nI cap, nI Q, nI A, nI Z, nI L, nI e, nI T, oc, ed, kd, nx, so, tx, nt, tS, tE, tK, tM, tR, tB, tA, yS, yM, yR, yB) := rb_mk (rb_C_up h)
  obtain ⟨⟨c1, c2, c3, c4, c5, c6, c7⟩, E, ht, hl, hm0, hm1⟩ := h
  have E' := E
  obtain ⟨E1, E2, E3, E4, E5, E6, E7, E8⟩ := E'
  have hT := rb_Lst_T hl
  have hSL := fun i (hi : i < T) => rb_Lst_S hl hi
  obtain ⟨l1, l2, l3, l4⟩ := hl
  have hS1 : ∀ i, i < T → S (i + 1) ≤ L := fun i hi => by
    by_cases z : i + 1 = T
    · rw [z]; omega
    · have := hSL (i + 1) (by omega); omega
  rcases rb_c3 v1 (Q := L) (by omega) with ⟨a, _, _, _⟩ | ⟨a, _, g, b⟩ | ⟨p, hp, rfl, a, _, _, b⟩
  · refine br_t a (rb_ytan (by omega) (fun i hi => Or.inl ?_) ⟨rfl, J⟩)
    rw [(l4 i hi).1]
    have := hSL i hi
    exact Int32.lt_of_lt_of_le a (nI_pos' (by omega))
  · refine br_f a (br_f b (rb_ytan (by omega) (fun i hi => Or.inr ?_) ⟨rfl, J⟩))
    rw [(l4 i hi).2.1]
    exact Int32.le_trans (nI_le (hS1 i hi) (by omega)) g
  · obtain ⟨i0, h1, h2, h3⟩ := rb_find (S := S) T (p := p) (by omega) (by omega)
    have mono : ∀ i, i < i0 → S (i + 1) ≤ p ∧ S i ≤ p := fun i hi => by
      have q1 := l3 i (by omega)
      by_cases z : i + 1 = i0
      · rw [z] at q1 ⊢; omega
      · have q2 := rb_ch_lt l3 (show i + 1 < i0 by omega) (by omega)
        omega
    refine br_f a (br_t b (rb_xtat (S := S) (by omega) (by omega) h1 (fun i hi => ⟨(ht i hi).2.1.trans (l4 i hi).2.1, ?_⟩) (fun i hi => (mono i hi).1) h3 (rb_ytat (S := S) (by omega) (by omega) h1 (fun i hi => ⟨(l4 i hi).1, (l4 i hi).2.1, ?_, ?_⟩) mono h3 h2 ⟨rfl, J⟩)))
    · have := hS1 i hi; omega
    · have := hS1 i hi; omega
    · have := hSL i hi; omega
theorem i_vc_stableCount {k : Nat} {u : SX} {v : SY} (I : i_Rel k u v) (hk : k + 5 ≤ 2564) (v1 : Int32) : wpX_stableCount (fun r => wpY_stableCount (fun r' => r' = r ∧ i_Rel (k + 5) u v) v v1) u v1 := by
  obtain ⟨cap, Q, A, Z, L, T, e, me, oc, ed, kd, nx, so, tx, tl, tok, xM, xR, xB, nt, tS, tE, tK, tM, tR, tB, tA, yS, yM, yR, yB, S, M, B, rfl, rfl, h⟩ := I
  have J : i_Rel (k + 5) (nI cap, nI Q, nI A, nI Z, nI L, nI T, me, nI e, ed, kd, nx, so, tx, tl, tok, xM, xR, xB) (nI cap, nI Q, nI A, nI Z, nI L, nI e, nI T, oc, ed, kd, nx, so, tx, nt, tS, tE, tK, tM, tR, tB, tA, yS, yM, yR, yB) := rb_mk (rb_C_up h)
  obtain ⟨⟨c1, c2, c3, c4, c5, c6, c7⟩, E, ht, hl, hm0, hm1⟩ := h
  have E' := E
  obtain ⟨E1, E2, E3, E4, E5, E6, E7, E8⟩ := E'
  have hT := rb_Lst_T hl
  by_cases a1 : v1 < 0
  · exact br_t a1 (br_t a1 ⟨rfl, J⟩)
  by_cases a2 : v1 ≤ nI L
  rotate_left
  · exact br_f a1 (br_f a2 (br_f a1 (br_f a2 ⟨rfl, J⟩)))
  obtain ⟨i0, h1, h2, h3⟩ := rb_first (fun i => tR i ≤ v1) T
  exact br_f a1 (br_t a2 (rb_xstc (tR := tR) (by omega) h1 (fun i hi => (ht i hi).2.2.2.2.1) h2 h3 (br_f a1 (br_t a2 (rb_ystc (by omega) h1 h2 h3 ⟨rfl, J⟩)))))
theorem i_vc_endMode {k : Nat} {u : SX} {v : SY} (I : i_Rel k u v) (hk : k + 5 ≤ 2564) : wpX_endMode (fun r => wpY_endMode (fun r' => r' = r ∧ i_Rel (k + 5) u v) v) u := by
  obtain ⟨cap, Q, A, Z, L, T, e, me, oc, ed, kd, nx, so, tx, tl, tok, xM, xR, xB, nt, tS, tE, tK, tM, tR, tB, tA, yS, yM, yR, yB, S, M, B, rfl, rfl, h⟩ := I
  have J : i_Rel (k + 5) (nI cap, nI Q, nI A, nI Z, nI L, nI T, me, nI e, ed, kd, nx, so, tx, tl, tok, xM, xR, xB) (nI cap, nI Q, nI A, nI Z, nI L, nI e, nI T, oc, ed, kd, nx, so, tx, nt, tS, tE, tK, tM, tR, tB, tA, yS, yM, yR, yB) := rb_mk (rb_C_up h)
  obtain ⟨⟨c1, c2, c3, c4, c5, c6, c7⟩, E, ht, hl, hm0, hm1⟩ := h
  have E' := E
  obtain ⟨E1, E2, E3, E4, E5, E6, E7, E8⟩ := E'
  have hT := rb_Lst_T hl
  refine pk_eq T 0 (fun z => ⟨(hm0 z).symm, J⟩) (fun z => ?_)
  obtain ⟨i, ei⟩ : ∃ i, T = i + 1 := ⟨T - 1, by omega⟩
  have ep : nI T - 1 = nI i := by rw [ei]; exact nI_pred i
  exact ⟨pk_in i 64 (by omega) ep, (rb_rd ep (by omega) (hm1 i ei).symm), J⟩
