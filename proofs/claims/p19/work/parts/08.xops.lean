/-! the object's calls, each with its outcome for every post -/
section
variable {cap Q A Z L T e : Nat} {me : Int32} {ed kd nx so tx tl tok xM xR xB : Nat → Int32}
theorem rb_xsf {post : Int32 → Prop} {p : Int32} (hQ : Q ≤ 16) (h : ∀ j, j < Q → ¬ p = nI j) (hp : post 0) : wpX_isState post (nI cap, nI Q, nI A, nI Z, nI L, nI T, me, nI e, ed, kd, nx, so, tx, tl, tok, xM, xR, xB) p :=
  rb_xst hQ (fun _ => hp) (fun _ _ => hp) (fun j hj ej => absurd ej (h j hj))
theorem rb_xstt {post : Int32 → Prop} {s : Nat} (hQ : Q ≤ 16) (hs : s < Q) (hp : post 1) : wpX_isState post (nI cap, nI Q, nI A, nI Z, nI L, nI T, me, nI e, ed, kd, nx, so, tx, tl, tok, xM, xR, xB) (nI s) :=
  rb_xst hQ (fun a => absurd a (nI_pos (by omega))) (fun _ b => absurd b (nI_ge hs (by omega))) (fun _ _ _ => hp)
theorem rb_xmf {post : Int32 → Prop} {p : Int32} (hZ : Z ≤ 4) (h : ∀ j, j < Z → ¬ p = nI j) (hp : post 0) : wpX_isMode post (nI cap, nI Q, nI A, nI Z, nI L, nI T, me, nI e, ed, kd, nx, so, tx, tl, tok, xM, xR, xB) p :=
  rb_xmo hZ (fun _ => hp) (fun _ _ => hp) (fun j hj ej => absurd ej (h j hj))
theorem rb_xmt {post : Int32 → Prop} {s : Nat} (hZ : Z ≤ 4) (hs : s < Z) (hp : post 1) : wpX_isMode post (nI cap, nI Q, nI A, nI Z, nI L, nI T, me, nI e, ed, kd, nx, so, tx, tl, tok, xM, xR, xB) (nI s) :=
  rb_xmo hZ (fun a => absurd a (nI_pos (by omega))) (fun _ b => absurd b (nI_ge hs (by omega))) (fun _ _ _ => hp)
theorem rb_xyt {post : Int32 → Prop} {s : Nat} (hA : A ≤ 8) (hs : s < A) (hp : post 1) : wpX_isSymbol post (nI cap, nI Q, nI A, nI Z, nI L, nI T, me, nI e, ed, kd, nx, so, tx, tl, tok, xM, xR, xB) (nI s) :=
  rb_xsm hA (fun a => absurd a (nI_pos (by omega))) (fun _ b => absurd b (nI_ge hs (by omega))) (fun _ _ _ => hp)
theorem rb_xak {post : Int32 → Prop} {s : Nat} (hQ : Q ≤ 16) (hs : s < Q) (hp : post (kd s)) : wpX_acceptKind post (nI cap, nI Q, nI A, nI Z, nI L, nI T, me, nI e, ed, kd, nx, so, tx, tl, tok, xM, xR, xB) (nI s) := by
  unfold wpX_acceptKind
  refine rb_xstt hQ hs (br_f (by decide) ⟨pk_in s 16 (by omega), ?_⟩)
  rw [nI_clamp (by omega)]
  exact hp
theorem rb_xam {post : Int32 → Prop} {s : Nat} (hQ : Q ≤ 16) (hs : s < Q) (hp : post (nx s)) : wpX_acceptMode post (nI cap, nI Q, nI A, nI Z, nI L, nI T, me, nI e, ed, kd, nx, so, tx, tl, tok, xM, xR, xB) (nI s) := by
  unfold wpX_acceptMode
  refine rb_xstt hQ hs (br_f (by decide) ⟨pk_in s 16 (by omega), ?_⟩)
  rw [nI_clamp (by omega)]
  exact hp
theorem rb_xsr {post : Int32 → Prop} {s : Nat} (hZ : Z ≤ 4) (hs : s < Z) (hp : post (so s)) : wpX_start post (nI cap, nI Q, nI A, nI Z, nI L, nI T, me, nI e, ed, kd, nx, so, tx, tl, tok, xM, xR, xB) (nI s) := by
  unfold wpX_start
  refine rb_xmt hZ hs (br_f (by decide) ⟨pk_in s 4 (by omega), ?_⟩)
  rw [nI_clamp (by omega)]
  exact hp
theorem rb_xed {post : Int32 → Prop} {s c : Nat} (hQ : Q ≤ 16) (hA : A ≤ 8) (hs : s < Q) (hc : c < A) (hp : post (ed (s * 8 + c))) : wpX_edge post (nI cap, nI Q, nI A, nI Z, nI L, nI T, me, nI e, ed, kd, nx, so, tx, tl, tok, xM, xR, xB) (nI s) (nI c) := by
  unfold wpX_edge
  refine rb_xstt hQ hs (br_f (by decide) (rb_xyt hA hc (br_f (by decide) ⟨pk_in (s * 8 + c) 128 (by omega) (rb_i8 s c), ?_⟩)))
  rw [rb_i8, nI_clamp (by omega)]
  exact hp
theorem rb_xsa {post : Int32 → Prop} {q : Nat} (hL : L ≤ 64) (hq : q < L) (hp : post (tx q)) : wpX_symbolAt post (nI cap, nI Q, nI A, nI Z, nI L, nI T, me, nI e, ed, kd, nx, so, tx, tl, tok, xM, xR, xB) (nI q) := by
  refine br_f (nI_pos (by omega)) (br_t (nI_lt hq (by omega)) ⟨pk_in q 64 (by omega), ?_⟩)
  rw [nI_clamp (by omega)]
  exact hp
theorem rb_xtk {post : Int32 → Prop} {i f : Nat} (hT : T ≤ 64) (hi : i < T) (hf : f < 6) (hp : post (tok (i * 6 + f))) : wpX_token post (nI cap, nI Q, nI A, nI Z, nI L, nI T, me, nI e, ed, kd, nx, so, tx, tl, tok, xM, xR, xB) (nI i) (nI f) := by
  refine br_f (nI_pos (by omega)) (br_t (nI_lt hi (by omega)) (br_f (nI_pos (by omega)) (br_t (nI_lt (b := 6) hf (by omega)) ⟨pk_in (i * 6 + f) 384 (by omega) (rb_i6 i f), ?_⟩)))
  rw [rb_i6, nI_clamp (by omega)]
  exact hp
theorem rb_ztk {y1 y2 y3 y4 y5 y7 y8 : Int32} {post : Int32 → Prop} {i f : Nat} (hT : T ≤ 64) (hi : i < T) (hf : f < 6) (hp : post (tok (i * 6 + f))) : wpX_token post (y1, y2, y3, y4, y5, nI T, y7, y8, ed, kd, nx, so, tx, tl, tok, xM, xR, xB) (nI i) (nI f) := by
  refine br_f (nI_pos (by omega)) (br_t (nI_lt hi (by omega)) (br_f (nI_pos (by omega)) (br_t (nI_lt (b := 6) hf (by omega)) ⟨pk_in (i * 6 + f) 384 (by omega) (rb_i6 i f), ?_⟩)))
  rw [rb_i6, nI_clamp (by omega)]
  exact hp
end
section
variable {cap Q A Z L T e : Nat} {ed kd nx so tx : Nat → Int32}
theorem rb_xse (E : rb_Env ed nx so tx A L Q Z) (v1 v2 v3 : Int32) : ∃ (r : Int32) (ed' : Nat → Int32), (∀ i, ed' i = -1 ∨ ∃ j, j < Q ∧ ed' i = nI j) ∧ (L ≠ 0 → ed' = ed) ∧
    ∀ (post : Int32 → St2 → Prop) (me : Int32) (tl tok xM xR xB : Nat → Int32), post r (nI cap, nI Q, nI A, nI Z, nI L, nI T, me, nI e, ed', kd, nx, so, tx, tl, tok, xM, xR, xB) → wpX_setEdges post (nI cap, nI Q, nI A, nI Z, nI L, nI T, me, nI e, ed, kd, nx, so, tx, tl, tok, xM, xR, xB) v1 v2 v3 := by
  obtain ⟨E1, E2, E3, E4, E5, E6, E7, E8⟩ := E
  by_cases h1 : ∃ s, s < Q ∧ v1 = nI s
  · obtain ⟨s, hs, rfl⟩ := h1
    by_cases a1 : v2 < 1
    · exact ⟨-2, ed, E5, fun _ => rfl, fun post me tl tok xM xR xB hp => by
        unfold wpX_setEdges
        exact rb_xstt E2 hs (br_f (by decide) (br_t a1 hp))⟩
    by_cases a2 : v2 ≤ (((1 : Int32) <<< (nI A &&& 31)) - 1)
    rotate_left
    · exact ⟨-2, ed, E5, fun _ => rfl, fun post me tl tok xM xR xB hp => by
        unfold wpX_setEdges
        exact rb_xstt E2 hs (br_f (by decide) (br_f a1 (br_f a2 hp)))⟩
    by_cases a3 : v3 = -1
    · by_cases hL : L = 0
      · exact ⟨0, rb_se ed s v2 v3 A, fun i => rb_se_in E5 (Or.inl a3) A i, fun z => absurd hL z, fun post me tl tok xM xR xB hp => by
          unfold wpX_setEdges
          exact rb_xstt E2 hs (br_f (by decide) (br_f a1 (br_t a2 (br_t a3 (pk_eq L 0 (fun _ => rb_x60 E1 (by omega) hp) (fun z => absurd hL z))))))⟩
      · exact ⟨-3, ed, E5, fun _ => rfl, fun post me tl tok xM xR xB hp => by
          unfold wpX_setEdges
          exact rb_xstt E2 hs (br_f (by decide) (br_f a1 (br_t a2 (br_t a3 (pk_eq L 0 (fun z => absurd z hL) (fun _ => hp))))))⟩
    · by_cases h3 : ∃ j, j < Q ∧ v3 = nI j
      · obtain ⟨j, hj, rfl⟩ := h3
        by_cases hL : L = 0
        · exact ⟨0, rb_se ed s v2 (nI j) A, fun i => rb_se_in E5 (Or.inr ⟨j, hj, rfl⟩) A i, fun z => absurd hL z, fun post me tl tok xM xR xB hp => by
            unfold wpX_setEdges
            exact rb_xstt E2 hs (br_f (by decide) (br_f a1 (br_t a2 (br_f a3 (rb_xstt E2 hj (br_f (by decide) (pk_eq L 0 (fun _ => rb_x60 E1 (by omega) hp) (fun z => absurd hL z))))))))⟩
        · exact ⟨-3, ed, E5, fun _ => rfl, fun post me tl tok xM xR xB hp => by
            unfold wpX_setEdges
            exact rb_xstt E2 hs (br_f (by decide) (br_f a1 (br_t a2 (br_f a3 (rb_xstt E2 hj (br_f (by decide) (pk_eq L 0 (fun z => absurd z hL) (fun _ => hp))))))))⟩
      · exact ⟨-2, ed, E5, fun _ => rfl, fun post me tl tok xM xR xB hp => by
          unfold wpX_setEdges
          exact rb_xstt E2 hs (br_f (by decide) (br_f a1 (br_t a2 (br_f a3 (rb_xsf E2 (fun j hj z => h3 ⟨j, hj, z⟩) (br_t rfl hp))))))⟩
  · exact ⟨-2, ed, E5, fun _ => rfl, fun post me tl tok xM xR xB hp => by
      unfold wpX_setEdges
      exact rb_xsf E2 (fun j hj z => h1 ⟨j, hj, z⟩) (br_t rfl hp)⟩
theorem rb_x40 {post : Int32 → St2 → Prop} {me : Int32} {tl tok xM xR xB : Nat → Int32} {s : Nat} {v2 v3 : Int32} (hs : s < 16) (hL : L = 0) (hp : post 0 (nI cap, nI Q, nI A, nI Z, nI L, nI T, me, nI e, ed, upd kd s v2, upd nx s (if v2 = 0 then -1 else v3), so, tx, tl, tok, xM, xR, xB)) : wX_setAccept_40 post (nI s) v2 v3 (nI cap) (nI Q) (nI A) (nI Z) (nI L) (nI T) me (nI e) ed kd nx so tx tl tok xM xR xB := by
  have hv : vp_in (nI s) 16 := pk_in s 16 hs
  have hs' : s < 2 ^ 31 := by omega
  refine pk_eq L 0 (fun _ => ⟨hv, nm_r (rb_ucl rfl hs' rfl) ?_⟩) (fun z => absurd hL z)
  by_cases g : v2 = 0
  · rw [if_pos g] at hp
    exact br_t g ⟨hv, nm_r (rb_ucl rfl hs' rfl) hp⟩
  · rw [if_neg g] at hp
    exact br_f g ⟨hv, nm_r (rb_ucl rfl hs' rfl) hp⟩
theorem rb_xac (E : rb_Env ed nx so tx A L Q Z) (hk : ∀ i, ∃ c, c < 16 ∧ kd i = nI c) (v1 v2 v3 : Int32) : ∃ (r : Int32) (kd' nx' : Nat → Int32), (∀ i, ∃ c, c < 16 ∧ kd' i = nI c) ∧ (∀ i, nx' i = -1 ∨ ∃ j, j < Z ∧ nx' i = nI j) ∧ (L ≠ 0 → kd' = kd ∧ nx' = nx) ∧
    ∀ (post : Int32 → St2 → Prop) (me : Int32) (tl tok xM xR xB : Nat → Int32), post r (nI cap, nI Q, nI A, nI Z, nI L, nI T, me, nI e, ed, kd', nx', so, tx, tl, tok, xM, xR, xB) → wpX_setAccept post (nI cap, nI Q, nI A, nI Z, nI L, nI T, me, nI e, ed, kd, nx, so, tx, tl, tok, xM, xR, xB) v1 v2 v3 := by
  obtain ⟨E1, E2, E3, E4, E5, E6, E7, E8⟩ := E
  by_cases h1 : ∃ s, s < Q ∧ v1 = nI s
  · obtain ⟨s, hs, rfl⟩ := h1
    by_cases a1 : v2 < 0
    · exact ⟨-2, kd, nx, hk, E6, fun _ => ⟨rfl, rfl⟩, fun post me tl tok xM xR xB hp => by
        unfold wpX_setAccept
        exact rb_xstt E2 hs (br_f (by decide) (br_t a1 hp))⟩
    by_cases a2 : v2 ≤ 15
    rotate_left
    · exact ⟨-2, kd, nx, hk, E6, fun _ => ⟨rfl, rfl⟩, fun post me tl tok xM xR xB hp => by
        unfold wpX_setAccept
        exact rb_xstt E2 hs (br_f (by decide) (br_f a1 (br_f a2 hp)))⟩
    obtain ⟨c, hc, ec⟩ := nI_of a1
    have hc' : c ≤ 15 := by
      rw [ec] at a2
      exact (nI_leI (b := 15) hc (by omega)).mp a2
    have hk' : ∀ i, ∃ c, c < 16 ∧ upd kd s v2 i = nI c := fun i => by
      by_cases ei : i = s
      · rw [ei, pk_us]; exact ⟨c, by omega, ec⟩
      · rw [pk_un ei]; exact hk i
    have hn' : (v3 = -1 ∨ ∃ j, j < Z ∧ v3 = nI j) → ∀ i, upd nx s (if v2 = 0 then -1 else v3) i = -1 ∨ ∃ j, j < Z ∧ upd nx s (if v2 = 0 then -1 else v3) i = nI j := fun h3 i => by
      by_cases ei : i = s
      · rw [ei, pk_us]
        by_cases g : v2 = 0
        · rw [if_pos g]; exact Or.inl rfl
        · rw [if_neg g]; exact h3
      · rw [pk_un ei]; exact E6 i
    by_cases hL : L = 0
    · by_cases a3 : v3 = -1
      · exact ⟨0, _, _, hk', hn' (Or.inl a3), fun z => absurd hL z, fun post me tl tok xM xR xB hp => by
          unfold wpX_setAccept
          exact rb_xstt E2 hs (br_f (by decide) (br_f a1 (br_t a2 (br_t a3 (rb_x40 (by omega) hL hp)))))⟩
      · by_cases h3 : ∃ j, j < Z ∧ v3 = nI j
        · obtain ⟨j, hj, ej⟩ := h3
          exact ⟨0, _, _, hk', hn' (Or.inr ⟨j, hj, ej⟩), fun z => absurd hL z, fun post me tl tok xM xR xB hp => by
            unfold wpX_setAccept
            refine rb_xstt E2 hs (br_f (by decide) (br_f a1 (br_t a2 (br_f a3 ?_))))
            have w : wX_setAccept_40 post (nI s) v2 v3 (nI cap) (nI Q) (nI A) (nI Z) (nI L) (nI T) me (nI e) ed kd nx so tx tl tok xM xR xB := rb_x40 (by omega) hL hp
            rw [ej] at w ⊢
            exact rb_xmt E3 hj (br_f (by decide) w)⟩
        · exact ⟨-2, kd, nx, hk, E6, fun _ => ⟨rfl, rfl⟩, fun post me tl tok xM xR xB hp => by
            unfold wpX_setAccept
            exact rb_xstt E2 hs (br_f (by decide) (br_f a1 (br_t a2 (br_f a3 (rb_xmf E3 (fun j hj z => h3 ⟨j, hj, z⟩) (br_t rfl hp))))))⟩
    · by_cases a3 : v3 = -1
      · exact ⟨-3, kd, nx, hk, E6, fun _ => ⟨rfl, rfl⟩, fun post me tl tok xM xR xB hp => by
          unfold wpX_setAccept
          exact rb_xstt E2 hs (br_f (by decide) (br_f a1 (br_t a2 (br_t a3 (pk_eq L 0 (fun z => absurd z hL) (fun _ => hp))))))⟩
      · by_cases h3 : ∃ j, j < Z ∧ v3 = nI j
        · obtain ⟨j, hj, rfl⟩ := h3
          exact ⟨-3, kd, nx, hk, E6, fun _ => ⟨rfl, rfl⟩, fun post me tl tok xM xR xB hp => by
            unfold wpX_setAccept
            exact rb_xstt E2 hs (br_f (by decide) (br_f a1 (br_t a2 (br_f a3 (rb_xmt E3 hj (br_f (by decide) (pk_eq L 0 (fun z => absurd z hL) (fun _ => hp))))))))⟩
        · exact ⟨-2, kd, nx, hk, E6, fun _ => ⟨rfl, rfl⟩, fun post me tl tok xM xR xB hp => by
            unfold wpX_setAccept
            exact rb_xstt E2 hs (br_f (by decide) (br_f a1 (br_t a2 (br_f a3 (rb_xmf E3 (fun j hj z => h3 ⟨j, hj, z⟩) (br_t rfl hp))))))⟩
  · exact ⟨-2, kd, nx, hk, E6, fun _ => ⟨rfl, rfl⟩, fun post me tl tok xM xR xB hp => by
      unfold wpX_setAccept
      exact rb_xsf E2 (fun j hj z => h1 ⟨j, hj, z⟩) (br_t rfl hp)⟩
theorem rb_xso (E : rb_Env ed nx so tx A L Q Z) (v1 v2 : Int32) : ∃ (r : Int32) (so' : Nat → Int32), (∀ i, ∃ j, j < Q ∧ so' i = nI j) ∧ (L ≠ 0 → so' = so) ∧
    ∀ (post : Int32 → St2 → Prop) (me : Int32) (tl tok xM xR xB : Nat → Int32), post r (nI cap, nI Q, nI A, nI Z, nI L, nI T, me, nI e, ed, kd, nx, so', tx, tl, tok, xM, xR, xB) → wpX_setStart post (nI cap, nI Q, nI A, nI Z, nI L, nI T, me, nI e, ed, kd, nx, so, tx, tl, tok, xM, xR, xB) v1 v2 := by
  obtain ⟨E1, E2, E3, E4, E5, E6, E7, E8⟩ := E
  by_cases h1 : ∃ m, m < Z ∧ v1 = nI m
  · obtain ⟨m, hm, rfl⟩ := h1
    by_cases h2 : ∃ s, s < Q ∧ v2 = nI s
    · obtain ⟨s, hs, rfl⟩ := h2
      by_cases hL : L = 0
      · refine ⟨0, upd so m (nI s), fun i => ?_, fun z => absurd hL z, fun post me tl tok xM xR xB hp => ?_⟩
        · by_cases ei : i = m
          · rw [ei, pk_us]; exact ⟨s, hs, rfl⟩
          · rw [pk_un ei]; exact E7 i
        · unfold wpX_setStart
          exact rb_xmt E3 hm (br_f (by decide) (rb_xstt E2 hs (br_f (by decide) (pk_eq L 0 (fun _ => ⟨pk_in m 4 (by omega), nm_r (rb_ucl rfl (by omega) rfl) hp⟩) (fun z => absurd hL z)))))
      · exact ⟨-3, so, E7, fun _ => rfl, fun post me tl tok xM xR xB hp => by
          unfold wpX_setStart
          exact rb_xmt E3 hm (br_f (by decide) (rb_xstt E2 hs (br_f (by decide) (pk_eq L 0 (fun z => absurd z hL) (fun _ => hp)))))⟩
    · exact ⟨-2, so, E7, fun _ => rfl, fun post me tl tok xM xR xB hp => by
        unfold wpX_setStart
        exact rb_xmt E3 hm (br_f (by decide) (rb_xsf E2 (fun j hj z => h2 ⟨j, hj, z⟩) (br_t rfl hp)))⟩
  · exact ⟨-2, so, E7, fun _ => rfl, fun post me tl tok xM xR xB hp => by
      unfold wpX_setStart
      exact rb_xmf E3 (fun j hj z => h1 ⟨j, hj, z⟩) (br_t rfl hp)⟩
end
