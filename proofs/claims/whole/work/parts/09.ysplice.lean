/-! the reference's splice -/
section
variable {cap Q A Z L T e : Nat} {oc : Int32} {ed kd nx so tx nt tS tE tK tM tR tB tA yS yM yR yB : Nat → Int32}
theorem rb_y361 {post : Int32 → SY → Prop} {J : Int32 → Int32 → (Nat → Int32) → (Nat → Int32) → (Nat → Int32) → (Nat → Int32) → (Nat → Int32) → (Nat → Int32) → (Nat → Int32) → (Nat → Int32) → (Nat → Int32) → (Nat → Int32) → (Nat → Int32) → (Nat → Int32) → (Nat → Int32) → (Nat → Int32) → (Nat → Int32) → (Nat → Int32) → (Nat → Int32) → Prop}
    {pos del n c i s m fr : Nat} {S M B : Nat → Nat} {R : Nat → Int32} (hS : ∀ i j, i < c → j < c → S i = S j → i = j) (hc : c ≤ 64) (hi : i < 64) (hs : s < 64) (hm : m < 4) (hpn : pos + n + del < 2 ^ 20)
    (ho : ∀ j, j < c → yS j = nI (S j) ∧ yM j = nI (M j) ∧ yR j = R j ∧ yB j = nI (B j) ∧ S j < 64 ∧ M j < 4 ∧ B j ≤ e) (htM : tM i = nI m)
    (h1 : rb_bn c S M R B pos del n e s m = e + 1 → J (nI (fr + 1)) (nI (i + 1)) ed kd nx so tx nt tS tE tK tM tR (upd tB i (nI (rb_bn c S M R B pos del n e s m))) tA yS yM yR yB)
    (h2 : rb_bn c S M R B pos del n e s m ≠ e + 1 → J (nI fr) (nI (i + 1)) ed kd nx so tx nt tS tE tK tM tR (upd tB i (nI (rb_bn c S M R B pos del n e s m))) tA yS yM yR yB) :
    ∃ f, wY_splice_361 post J (nI pos) (nI del) (nI n) (nI fr) (nI i) (nI s) (nI cap) (nI Q) (nI A) (nI Z) (nI L) (nI (e + 1)) (nI T) (nI c) ed kd nx so tx nt tS tE tK tM tR tB tA yS yM yR yB f (-1) 0 := by
  have hi' : i < 2 ^ 31 := by omega
  refine pk_loop (fun f j x => wY_splice_361 post J (nI pos) (nI del) (nI n) (nI fr) (nI i) (nI s) (nI cap) (nI Q) (nI A) (nI Z) (nI L) (nI (e + 1)) (nI T) (nI c) ed kd nx so tx nt tS tE tK tM tR tB tA yS yM yR yB f x (nI j)) (fun j x => rb_Fd S M R pos del n s m j x) c 0 (-1) (Nat.zero_le _) rb_Fd_0 ?_ ?_
  · intro f x h
    refine pk_le c c (fun _ => ?_) (fun z => absurd z (by omega))
    rcases h with ⟨rfl, hn⟩ | ⟨j, hj, hF, rfl⟩
    · have hb : rb_bn c S M R B pos del n e s m = e + 1 := rb_bn_n hn
      exact br_t (by decide) ⟨pk_in i 64 hi, nm_r (rb_ucl rfl hi' (congrArg nI hb.symm)) (nm_r (nI_1 fr) (nm_r (nI_1 i) (h1 hb)))⟩
    · obtain ⟨_, _, _, o4, _, _, o7⟩ := ho j hj
      have hb : rb_bn c S M R B pos del n e s m = B j := rb_bn_s hS hj hF
      exact br_f (nI_pos (by omega)) ⟨pk_in j 64 (by omega), pk_in i 64 hi, nm_r (rb_ucl rfl hi' (rb_rd rfl (by omega) (o4.trans (congrArg nI hb.symm)))) (nm_r (nI_1 i) (h2 (by omega)))⟩
  · intro f j x hj h hw
    obtain ⟨o1, o2, o3, o4, o5, o6, o7⟩ := ho j hj
    have hj' : j < 2 ^ 31 := by omega
    have r1 : yS (nI j).toNatClampNeg = nI (S j) := rb_rd rfl hj' o1
    have r2 : yM (nI j).toNatClampNeg = nI (M j) := rb_rd rfl hj' o2
    have r3 : yR (nI j).toNatClampNeg = R j := rb_rd rfl hj' o3
    have r4 : tM (nI i).toNatClampNeg = nI m := rb_rd rfl hi' htM
    have h4 : ∀ x' : Int32, s < pos + n → rb_Fd S M R pos del n s m (j + 1) x' → wY_splice_420 post J (wY_splice_361 post J (nI pos) (nI del) (nI n) (nI fr) (nI i) (nI s) (nI cap) (nI Q) (nI A) (nI Z) (nI L) (nI (e + 1)) (nI T) (nI c) ed kd nx so tx nt tS tE tK tM tR tB tA yS yM yR yB f) (nI pos) (nI del) (nI n) (nI fr) (nI i) (nI s) x' (nI j) (nI cap) (nI Q) (nI A) (nI Z) (nI L) (nI (e + 1)) (nI T) (nI c) ed kd nx so tx nt tS tE tK tM tR tB tA yS yM yR yB :=
      fun x' hlt hF => pk_lt s (pos + n) (fun _ => nm_r (nI_1 j) (hw x' hF)) (fun z => absurd z (by omega)) rfl (nI_add pos n)
    refine pk_le c j (fun z => absurd z (by omega)) (fun _ => ⟨pk_in j 64 (by omega), pk_in i 64 hi, pk_eq (M j) m (fun hm => ?_) (fun hm => nm_r (nI_1 j) (hw x (rb_Fd_f h (fun hF => hm hF.1)))) r2 r4⟩)
    refine pk_le pos s (fun hp => ?_) (fun hp => ⟨pk_in j 64 (by omega), ?_⟩)
    · refine pk_lt s (pos + n) (fun hq => nm_r (nI_1 j) (hw x (rb_Fd_f h ?_))) (fun hq => ⟨pk_in j 64 (by omega), ?_⟩) rfl (nI_add pos n)
      · rintro ⟨_, ⟨z, _, _⟩ | ⟨z, _⟩⟩ <;> omega
      · have ep : nI s - nI n + nI del = nI (s - n + del) := by rw [pk_sub (by omega), nI_add]
        refine pk_eq (S j) (s - n + del) (fun hz => nm_r (nI_1 j) (hw _ (rb_Fd_t ⟨hm, Or.inr ⟨hq, by omega⟩⟩))) (fun hz => nm_r (nI_1 j) (hw x (rb_Fd_f h ?_))) r1 ep
        rintro ⟨_, ⟨z, _, _⟩ | ⟨_, z⟩⟩ <;> omega
    · refine pk_eq (S j) s (fun hz => ⟨pk_in j 64 (by omega), ?_⟩) (fun hz => h4 x (by omega) (rb_Fd_f h ?_)) r1 rfl
      · rw [r3]
        refine br_c (fun g => h4 x (by omega) (rb_Fd_f h ?_)) (fun g => h4 _ (by omega) (rb_Fd_t ⟨hm, Or.inl ⟨hp, hz, Int32.not_lt.mp g⟩⟩))
        rintro ⟨_, ⟨_, _, z⟩ | ⟨z, _⟩⟩
        · exact Int32.not_le.mpr g z
        · omega
      · rintro ⟨_, ⟨_, z, _⟩ | ⟨z, _⟩⟩ <;> omega
theorem rb_y337 {post : Int32 → SY → Prop} {pos del n c : Nat} {S M B S' M' : Nat → Nat} {R : Nat → Int32} (hS : ∀ i j, i < c → j < c → S i = S j → i = j) (hc : c ≤ 64) (hT : T ≤ 64) (hpn : pos + n + del < 2 ^ 20)
    (ho : ∀ j, j < c → yS j = nI (S j) ∧ yM j = nI (M j) ∧ yR j = R j ∧ yB j = nI (B j) ∧ S j < 64 ∧ M j < 4 ∧ B j ≤ e) (hn : ∀ i, i < T → tS i = nI (S' i) ∧ tM i = nI (M' i) ∧ S' i < 64 ∧ M' i < 4)
    (hp : ∀ tB', (∀ i, i < T → tB' i = nI (rb_bn c S M R B pos del n e (S' i) (M' i))) → post (nI (rb_fr (e + 1) (fun i => rb_bn c S M R B pos del n e (S' i) (M' i)) T)) (nI cap, nI Q, nI A, nI Z, nI L, nI (e + 1), nI T, nI c, ed, kd, nx, so, tx, nt, tS, tE, tK, tM, tR, tB', tA, yS, yM, yR, yB)) :
    ∃ f, wY_splice_337 post (nI pos) (nI del) (nI n) (nI cap) (nI Q) (nI A) (nI Z) (nI L) (nI (e + 1)) (nI T) (nI c) f 0 0 ed kd nx so tx nt tS tE tK tM tR tB tA yS yM yR yB := by
  refine pk_loop (fun f i s => wY_splice_337 post (nI pos) (nI del) (nI n) (nI cap) (nI Q) (nI A) (nI Z) (nI L) (nI (e + 1)) (nI T) (nI c) f (nI (rb_fr (e + 1) (fun i => rb_bn c S M R B pos del n e (S' i) (M' i)) i)) (nI i) ed kd nx so tx nt tS tE tK tM tR s tA yS yM yR yB)
    (fun i s => ∀ j, j < i → s j = nI (rb_bn c S M R B pos del n e (S' j) (M' j))) T 0 tB (Nat.zero_le _) lt_0 ?_ ?_
  · intro f s h
    exact pk_le T T (fun _ => hp s h) (fun z => absurd z (by omega))
  · intro f i s hi h hw
    obtain ⟨n1, n2, n3, n4⟩ := hn i hi
    have hI : ∀ j, j < i + 1 → upd s i (nI (rb_bn c S M R B pos del n e (S' i) (M' i))) j = nI (rb_bn c S M R B pos del n e (S' j) (M' j)) := by
      intro j hj
      by_cases ej : j = i
      · rw [ej, pk_us]
      · rw [pk_un ej]
        exact h j (by omega)
    have w := hw _ hI
    refine pk_le T i (fun z => absurd z (by omega)) (fun _ => ⟨pk_in i 64 (by omega), nm_r (rb_rd rfl (by omega) n1) (rb_y361 hS hc (by omega) n3 n4 hpn ho n2 (fun z => ?_) (fun z => ?_))⟩)
    · rw [rb_fr_t (b := fun i => rb_bn c S M R B pos del n e (S' i) (M' i)) (i := i) z] at w
      exact w
    · rw [rb_fr_f (b := fun i => rb_bn c S M R B pos del n e (S' i) (M' i)) (i := i) z] at w
      exact w
theorem rb_y133 {post : Int32 → SY → Prop} {x1 x2 x3 x4 x5 : Int32} (hT : T ≤ 64)
    (hp : ∀ yS' yM' yR' yB', (∀ j, j < T → yS' j = tS j ∧ yM' j = tM j ∧ yR' j = tR j ∧ yB' j = tB j) → ∃ f, wY_splice_207 post x1 x2 x3 x4 x5 (nI cap) (nI Q) (nI A) (nI Z) (nI L) (nI e) (nI T) oc f 0 ed kd nx so tx nt tS tE tK tM tR tB tA yS' yM' yR' yB') :
    ∃ f, wY_splice_133 post x1 x2 x3 x4 x5 (nI cap) (nI Q) (nI A) (nI Z) (nI L) (nI e) (nI T) oc f 0 ed kd nx so tx nt tS tE tK tM tR tB tA yS yM yR yB := by
  refine pk_loop (fun f i (w : (Nat → Int32) × (Nat → Int32) × (Nat → Int32) × (Nat → Int32)) => wY_splice_133 post x1 x2 x3 x4 x5 (nI cap) (nI Q) (nI A) (nI Z) (nI L) (nI e) (nI T) oc f (nI i) ed kd nx so tx nt tS tE tK tM tR tB tA w.1 w.2.1 w.2.2.1 w.2.2.2)
    (fun i w => ∀ j, j < i → w.1 j = tS j ∧ w.2.1 j = tM j ∧ w.2.2.1 j = tR j ∧ w.2.2.2 j = tB j) T 0 (yS, yM, yR, yB) (Nat.zero_le _) lt_0 ?_ ?_
  · intro f w h
    exact pk_le T T (fun _ => hp _ _ _ _ h) (fun z => absurd z (by omega))
  · intro f i w hi h hw
    have hi' : i < 2 ^ 31 := by omega
    have hv : vp_in (nI i) 64 := pk_in i 64 (by omega)
    refine pk_le T i (fun z => absurd z (by omega)) (fun _ => ⟨hv, hv, nm_r (rb_ucl rfl hi' (rb_rcl rfl hi')) ⟨hv, hv, nm_r (rb_ucl rfl hi' (rb_rcl rfl hi')) ⟨hv, hv, nm_r (rb_ucl rfl hi' (rb_rcl rfl hi')) ⟨hv, hv, nm_r (rb_ucl rfl hi' (rb_rcl rfl hi')) (nm_r (nI_1 i) ?_)⟩⟩⟩⟩)
    refine hw (upd w.1 i (tS i), upd w.2.1 i (tM i), upd w.2.2.1 i (tR i), upd w.2.2.2 i (tB i)) ?_
    intro j hj
    dsimp only
    by_cases ej : j = i
    · rw [ej, pk_us, pk_us, pk_us, pk_us]
      exact ⟨rfl, rfl, rfl, rfl⟩
    · rw [pk_un ej, pk_un ej, pk_un ej, pk_un ej]
      exact h j (by omega)
theorem rb_y207 {post : Int32 → SY → Prop} {pos del n : Nat} {pk : Int32} (hd : pos + del ≤ L) (hL : L ≤ 64) (hn : L - del + n ≤ 64)
    (hp : ∀ nt', (∀ j, j < L - del + n → nt' j = rb_nt tx (rb_sy pk) L pos del n j) → ∃ f, wY_splice_294 post (nI pos) (nI del) (nI n) (nI (L - del + n)) (nI cap) (nI Q) (nI A) (nI Z) (nI L) (nI e) (nI T) oc f 0 ed kd nx so tx nt' tS tE tK tM tR tB tA yS yM yR yB) :
    ∃ f, wY_splice_207 post (nI pos) (nI del) (nI n) pk (nI (L - del + n)) (nI cap) (nI Q) (nI A) (nI Z) (nI L) (nI e) (nI T) oc f 0 ed kd nx so tx nt tS tE tK tM tR tB tA yS yM yR yB := by
  refine pk_loop (fun f i s => wY_splice_207 post (nI pos) (nI del) (nI n) pk (nI (L - del + n)) (nI cap) (nI Q) (nI A) (nI Z) (nI L) (nI e) (nI T) oc f (nI i) ed kd nx so tx s tS tE tK tM tR tB tA yS yM yR yB) (fun i s => ∀ j, j < i → s j = rb_nt tx (rb_sy pk) L pos del n j) (L - del + n) 0 nt (Nat.zero_le _) lt_0 ?_ ?_
  · intro f s h
    exact pk_le (L - del + n) (L - del + n) (fun _ => hp s h) (fun z => absurd z (by omega))
  · intro f i s hi h hw
    have hi' : i < 2 ^ 31 := by omega
    have hv : vp_in (nI i) 64 := pk_in i 64 (by omega)
    have hI : ∀ j, j < i + 1 → upd s i (rb_nt tx (rb_sy pk) L pos del n i) j = rb_nt tx (rb_sy pk) L pos del n j := by
      intro j hj
      by_cases ej : j = i
      · rw [ej, pk_us]
      · rw [pk_un ej]
        exact h j (by omega)
    have w := hw _ hI
    refine pk_le (L - del + n) i (fun z => absurd z (by omega)) (fun _ => pk_le pos i (fun h1 => pk_le (pos + n) i (fun h2 => ?_) (fun h2 => ?_) (nI_add pos n) rfl) (fun h1 => ?_))
    · have ep : nI i - nI n + nI del = nI (i + del - n) := by rw [pk_sub (by omega), nI_add]; exact congrArg nI (by omega)
      exact ⟨pk_in (i + del - n) 64 (by omega) ep, hv, nm_r (rb_ucl rfl hi' (rb_rd ep (by omega) (rb_nt_3 h2 hi).symm)) (nm_r (nI_1 i) w)⟩
    · have es : nI i - nI pos = nI (i - pos) := pk_sub h1
      refine ⟨hv, nm_r (rb_ucl rfl hi' ?_) (nm_r (nI_1 i) w)⟩
      rw [es, rb_nt_2 h1 h2]
      rfl
    · exact ⟨hv, hv, nm_r (rb_ucl rfl hi' (rb_rd rfl hi' (rb_nt_1 h1).symm)) (nm_r (nI_1 i) w)⟩
theorem rb_y294 {post : Int32 → SY → Prop} {x1 x2 x3 : Int32} {pos del n : Nat} {sy : Nat → Int32} (hd : pos + del ≤ L) (hL : L ≤ 64) (hn : L - del + n ≤ 64) (hnt : ∀ j, j < L - del + n → nt j = rb_nt tx sy L pos del n j)
    (hp : wpY_cutAll (fun u => match u with | (c1, c2, c3, c4, c5, c6, c7, c8, b1, b2, b3, b4, b5, b6, b7, b8, b9, b10, b11, b12, b13, b14, b15, b16, b17) => ∃ f, wY_splice_337 post x1 x2 x3 c1 c2 c3 c4 c5 c6 c7 c8 f 0 0 b1 b2 b3 b4 b5 b6 b7 b8 b9 b10 b11 b12 b13 b14 b15 b16 b17) (nI cap, nI Q, nI A, nI Z, nI (L - del + n), nI e, nI T, oc, ed, kd, nx, so, rb_nt tx sy L pos del n, nt, tS, tE, tK, tM, tR, tB, tA, yS, yM, yR, yB)) :
    ∃ f, wY_splice_294 post x1 x2 x3 (nI (L - del + n)) (nI cap) (nI Q) (nI A) (nI Z) (nI L) (nI e) (nI T) oc f 0 ed kd nx so tx nt tS tE tK tM tR tB tA yS yM yR yB := by
  have G := pk_loop (fun f i (_ : Unit) => wY_splice_294 post x1 x2 x3 (nI (L - del + n)) (nI cap) (nI Q) (nI A) (nI Z) (nI L) (nI e) (nI T) oc f (nI i) ed kd nx so (rb_y2 (rb_nt tx sy L pos del n) tx i) nt tS tE tK tM tR tB tA yS yM yR yB) (fun _ _ => True) (L - del + n) 0 () (Nat.zero_le _) trivial ?_ ?_
  · rw [rb_y2_0] at G
    exact G
  · intro f _ _
    refine pk_le (L - del + n) (L - del + n) (fun _ => ?_) (fun z => absurd z (by omega))
    rw [rb_y2_e hd]
    exact hp
  · intro f i _ hi _ hw
    have w := hw () trivial
    rw [← rb_y2_s] at w
    have hv : vp_in (nI i) 64 := pk_in i 64 (by omega)
    exact pk_le (L - del + n) i (fun z => absurd z (by omega)) (fun _ => ⟨hv, hv, nm_r (rb_ucl rfl (by omega) (rb_rd rfl (by omega) (hnt i hi))) (nm_r (nI_1 i) w)⟩)
theorem rb_y90 {post : Int32 → SY → Prop} {pos del n T' : Nat} {pk : Int32} {S M B S' M' : Nat → Nat} {K : Nat → Int32} {lk : Nat → Nat} (hL : L ≤ cap) (hcap : cap ≤ 64) (hZ : Z ≤ 4) (he : e + 1 < 2 ^ 31)
    (E' : rb_Env ed nx so (rb_nt tx (rb_sy pk) L pos del n) A (L - del + n) Q Z) (hs : rb_Seq ed kd nx so (rb_nt tx (rb_sy pk) L pos del n) A (L - del + n) Z T' S' M' K lk) (hl : rb_Lst T L Z e tS tE tM tB S M B)
    (hd : pos + del ≤ L) (hn : n ≤ 8) (hc : L - del + n ≤ cap)
    (hp : ∀ nt' tS' tE' tK' tM' tR' tB' tA' yS' yM' yR' yB', rb_CutY S' M' K lk T' tS' tE' tK' tM' tR' tA' → (∀ i, i < T' → tB' i = nI (rb_bn T S M tR B pos del n e (S' i) (M' i))) →
      post (nI (rb_fr (e + 1) (fun i => rb_bn T S M tR B pos del n e (S' i) (M' i)) T')) (nI cap, nI Q, nI A, nI Z, nI (L - del + n), nI (e + 1), nI T', nI T, ed, kd, nx, so, rb_nt tx (rb_sy pk) L pos del n, nt', tS', tE', tK', tM', tR', tB', tA', yS', yM', yR', yB')) :
    wY_splice_90 post (nI pos) (nI del) (nI n) pk (nI cap) (nI Q) (nI A) (nI Z) (nI L) (nI e) (nI T) oc ed kd nx so tx nt tS tE tK tM tR tB tA yS yM yR yB := by
  have hT : T ≤ L := rb_Lst_T hl
  have hSL := fun i (hi : i < T) => rb_Lst_S hl hi
  obtain ⟨l1, l2, l3, l4⟩ := hl
  have hs' := hs
  obtain ⟨s1, s2, s3, s4, s5, s6⟩ := hs'
  refine nm_r (show nI L - nI del + nI n = nI (L - del + n) by rw [pk_sub (by omega), nI_add]) (pk_le (L - del + n) cap (fun _ => nm_r (nI_1 e) ?_) (fun z => absurd z (by omega)))
  refine rb_y133 (by omega) (fun yS' yM' yR' yB' ho => rb_y207 hd (by omega) (by omega) (fun nt' hnt => rb_y294 hd (by omega) (by omega) hnt (rb_ycut E' hs (fun tS' tE' tK' tM' tR' tA' hC => ?_))))
  refine rb_y337 (S := S) (M := M) (B := B) (S' := S') (M' := M') (R := tR) (rb_ch_in l3) (by omega) (by omega) (by omega) (fun j hj => ?_) (fun i hi => ?_) (fun tB' hB => hp _ _ _ _ _ _ _ _ _ _ _ _ hC hB)
  · obtain ⟨o1, o2, o3, o4⟩ := ho j hj
    obtain ⟨p1, p2, p3, p4, p5, p6⟩ := l4 j hj
    have p7 := hSL j hj
    exact ⟨o1.trans p1, o2.trans p3, o3, o4.trans p4, by omega, by omega, p6⟩
  · obtain ⟨o1, o2, o3, o4, o5, o6⟩ := hC i hi
    obtain ⟨p1, p2, p3, p4⟩ := s6 i hi
    exact ⟨o1, o4, by omega, by omega⟩
end
