/-! the law -/
section
variable {N kc ks : Nat} {xs : Nat → Int32} {post : Int32 → Prop} {J93 : Int32 → Int32 → Int32 → Int32 → Int32 → Int32 → Int32 → Int32 → Int32 → (Nat → Int32) → (Nat → Int32) → (Nat → Int32) → (Nat → Int32) → (Nat → Int32) → (Nat → Int32) → (Nat → Int32) → (Nat → Int32) → (Nat → Int32) → (Nat → Int32) → Int32 → Int32 → Int32 → Int32 → Int32 → Int32 → Int32 → Int32 → (Nat → Int32) → (Nat → Int32) → (Nat → Int32) → (Nat → Int32) → (Nat → Int32) → (Nat → Int32) → (Nat → Int32) → (Nat → Int32) → (Nat → Int32) → (Nat → Int32) → Prop} {x7 : Int32}
variable {cap Q A Z L T e k : Nat} {ed kd nx so tx tl tok xM xR xB tl2 tok2 xM2 xR2 xB2 : Nat → Int32} {S M : Nat → Nat} {K : Nat → Int32} {lk B : Nat → Nat}
theorem rb_cell {P : Int32 → Prop} {x : Int32} (p : Nat) (hx : x = nI p) (hp : p < 2 ^ 31) (hN : N < 2 ^ 31) (h : ∀ r, P r) : wpL_cell P N xs () x := by
  subst hx
  exact pk_le N p (fun _ => h 0) (fun z => ⟨pk_in p N z, h _⟩)
theorem rb_mod {P : Int32 → Prop} {c m : Int32} (h : ∀ r, P r) : wpL_mod P () c m :=
  br_c (fun z => ⟨fun e => absurd z (by rw [e]; decide), h _⟩) (fun _ => h 0)
theorem rb_modE (c : Int32) (m : Nat) (hm : 0 < m) (hm2 : m < 2 ^ 31) : ∃ j, j < m ∧ ∀ P : Int32 → Prop, P (nI j) → wpL_mod P () c (nI m) := by
  obtain ⟨w, hw, ew⟩ := pk_andE c (m := 2147483647) 31 (by decide)
  refine ⟨w % m, Nat.mod_lt _ hm, fun P hp => br_t (nI_le (a := 1) hm hm2) ⟨nI_ne0 hm hm2, ?_⟩⟩
  rw [ew, pk_rem hw hm hm2]
  exact hp
theorem rb_l430 {p9 : Nat} {x10 x11 x12 : Int32} (h9 : p9 < 2 ^ 20) (hN : N < 2 ^ 20) (hP : rb_P k cap Q A Z L T e ed kd nx so tx tok tok2 S M K lk B) (hk : k < 2 ^ 20)
    (HJ : ∀ (L T e : Nat) (ed kd nx so tx tl tok xM xR xB tl2 tok2 xM2 xR2 xB2 : Nat → Int32) (S M : Nat → Nat) (K : Nat → Int32) (lk B : Nat → Nat), rb_P (k + 1) cap Q A Z L T e ed kd nx so tx tok tok2 S M K lk B → J93 (nI (k + 1)) (nI cap) (nI Q) (nI A) (nI Z) (nI L) (nI T) (nI (M T)) (nI e) ed kd nx so tx tl tok xM xR xB (nI cap) (nI Q) (nI A) (nI Z) (nI L) (nI T) (nI (M T)) (nI e) ed kd nx so tx tl2 tok2 xM2 xR2 xB2) :
    wL_law_430 post N xs J93 (nI Q) (nI A) (nI Z) x7 (nI k) (nI p9) x10 x11 x12 kc ks (nI cap) (nI Q) (nI A) (nI Z) (nI L) (nI T) (nI (M T)) (nI e) ed kd nx so tx tl tok xM xR xB (nI cap) (nI Q) (nI A) (nI Z) (nI L) (nI T) (nI (M T)) (nI e) ed kd nx so tx tl2 tok2 xM2 xR2 xB2 := by
  have H5 : ∀ x13 x15 : Int32, wL_law_519 post N xs J93 (nI Q) (nI A) (nI Z) x7 (nI k) (nI p9) x10 x11 x13 x15 kc ks (nI cap) (nI Q) (nI A) (nI Z) (nI L) (nI T) (nI (M T)) (nI e) ed kd nx so tx tl tok xM xR xB (nI cap) (nI Q) (nI A) (nI Z) (nI L) (nI T) (nI (M T)) (nI e) ed kd nx so tx tl2 tok2 xM2 xR2 xB2 := fun x13 x15 =>
    br_c (fun _ => rb_l556 hP hk HJ _ _) (fun _ => rb_cell (p9 + 3) (nI_add p9 3) (by omega) (by omega) (fun r => rb_mod (fun r' => nm_e (rb_l556 hP hk HJ _ _))))
  have H4 : ∀ x13 x14 : Int32, wL_law_492 post N xs J93 (nI Q) (nI A) (nI Z) x7 (nI k) (nI p9) x10 x11 x12 x13 x14 kc ks (nI cap) (nI Q) (nI A) (nI Z) (nI L) (nI T) (nI (M T)) (nI e) ed kd nx so tx tl tok xM xR xB (nI cap) (nI Q) (nI A) (nI Z) (nI L) (nI T) (nI (M T)) (nI e) ed kd nx so tx tl2 tok2 xM2 xR2 xB2 := fun x13 x14 =>
    br_c (fun _ => H5 _ _) (fun _ => rb_cell (p9 + 2) (nI_add p9 2) (by omega) (by omega) (fun r => rb_mod (fun r' => H5 _ _)))
  have H3 : ∀ z : Int32, wL_law_466 post N xs J93 (nI Q) (nI A) (nI Z) x7 (nI k) (nI p9) x10 x11 x12 z kc ks (nI cap) (nI Q) (nI A) (nI Z) (nI L) (nI T) (nI (M T)) (nI e) ed kd nx so tx tl tok xM xR xB (nI cap) (nI Q) (nI A) (nI Z) (nI L) (nI T) (nI (M T)) (nI e) ed kd nx so tx tl2 tok2 xM2 xR2 xB2 := fun z =>
    nm_e (br_c (fun _ => H4 _ _) (fun _ => br_c (fun _ => H4 _ _) (fun _ => H4 _ _)))
  exact br_c (fun _ => H3 _) (fun _ => br_c (fun _ => H3 _) (fun _ => rb_cell (p9 + 1) (nI_add p9 1) (by omega) (by omega) (fun r => rb_mod (fun r' => H3 _))))
theorem rb_l93 {N' : Nat} (hN' : N' < 2 ^ 16) (hN : N < 2 ^ 20) : ∀ (d k L T e : Nat) (ed kd nx so tx tl tok xM xR xB tl2 tok2 xM2 xR2 xB2 : Nat → Int32) (S M : Nat → Nat) (K : Nat → Int32) (lk B : Nat → Nat), k ≤ N' → N' - k < d → rb_P k cap Q A Z L T e ed kd nx so tx tok tok2 S M K lk B →
    wL_law_93 (fun r => r = 1) N xs (nI Q) (nI A) (nI Z) (nI N') kc ks d (nI k) (nI cap) (nI Q) (nI A) (nI Z) (nI L) (nI T) (nI (M T)) (nI e) ed kd nx so tx tl tok xM xR xB (nI cap) (nI Q) (nI A) (nI Z) (nI L) (nI T) (nI (M T)) (nI e) ed kd nx so tx tl2 tok2 xM2 xR2 xB2 := by
  intro d
  induction d with
  | zero => intro k L T e ed kd nx so tx tl tok xM xR xB tl2 tok2 xM2 xR2 xB2 S M K lk B h1 h2 _; omega
  | succ d ih =>
    intro k L T e ed kd nx so tx tl tok xM xR xB tl2 tok2 xM2 xR2 xB2 S M K lk B h1 h2 hP
    refine pk_le N' k (fun _ => rfl) (fun hk => ?_)
    have HJ : ∀ (L T e : Nat) (ed kd nx so tx tl tok xM xR xB tl2 tok2 xM2 xR2 xB2 : Nat → Int32) (S M : Nat → Nat) (K : Nat → Int32) (lk B : Nat → Nat), rb_P (k + 1) cap Q A Z L T e ed kd nx so tx tok tok2 S M K lk B → wL_law_93 (fun r => r = 1) N xs (nI Q) (nI A) (nI Z) (nI N') kc ks d (nI (k + 1)) (nI cap) (nI Q) (nI A) (nI Z) (nI L) (nI T) (nI (M T)) (nI e) ed kd nx so tx tl tok xM xR xB (nI cap) (nI Q) (nI A) (nI Z) (nI L) (nI T) (nI (M T)) (nI e) ed kd nx so tx tl2 tok2 xM2 xR2 xB2 :=
      fun L T e ed kd nx so tx tl tok xM xR xB tl2 tok2 xM2 xR2 xB2 S M K lk B hP' => ih (k + 1) L T e ed kd nx so tx tl tok xM xR xB tl2 tok2 xM2 xR2 xB2 S M K lk B (by omega) (by omega) hP'
    have e9 : (4 : Int32) + 5 * nI k = nI (4 + 5 * k) := (congrArg (fun z => nI 4 + z) (pk_mul 5 k)).trans (nI_add 4 (5 * k))
    refine nm_r e9 (rb_cell (4 + 5 * k) rfl (by omega) (by omega) (fun r1 => rb_mod (fun r2 => rb_cell (4 + 5 * k + 4) (nI_add (4 + 5 * k) 4) (by omega) (by omega) (fun r3 => nm_e (rb_xle ?_)))))
    have LD : ∀ x11 : Int32, ∃ f, wL_law_167 (fun r => r = 1) N xs (wL_law_93 (fun r => r = 1) N xs (nI Q) (nI A) (nI Z) (nI N') kc ks d) (nI Q) (nI A) (nI Z) (nI N') (nI k) kc ks f x11 0 (nI cap) (nI Q) (nI A) (nI Z) (nI L) (nI T) (nI (M T)) (nI e) ed kd nx so tx tl tok xM xR xB (nI cap) (nI Q) (nI A) (nI Z) (nI L) (nI T) (nI (M T)) (nI e) ed kd nx so tx tl2 tok2 xM2 xR2 xB2 := fun x11 =>
      ⟨Q + 1, rb_l167 HJ (Q + 1) 0 x11 ed kd nx so (Nat.zero_le _) (by omega) hP⟩
    have SP : ∀ x10 x11 x12 : Int32, wL_law_430 (fun r => r = 1) N xs (wL_law_93 (fun r => r = 1) N xs (nI Q) (nI A) (nI Z) (nI N') kc ks d) (nI Q) (nI A) (nI Z) (nI N') (nI k) (nI (4 + 5 * k)) x10 x11 x12 kc ks (nI cap) (nI Q) (nI A) (nI Z) (nI L) (nI T) (nI (M T)) (nI e) ed kd nx so tx tl tok xM xR xB (nI cap) (nI Q) (nI A) (nI Z) (nI L) (nI T) (nI (M T)) (nI e) ed kd nx so tx tl2 tok2 xM2 xR2 xB2 := fun x10 x11 x12 =>
      rb_l430 (by omega) hN hP (by omega) HJ
    exact br_c (fun _ => LD _) (fun _ => br_c (fun _ => LD _) (fun _ => br_c (fun _ => br_c (fun _ => SP _ _ _) (fun _ => LD _)) (fun _ => SP _ _ _)))
end
theorem rb_xinit {post : St2 → Prop} {c q a z : Nat} (hc : 8 ≤ c ∧ c ≤ 64) (hq : 4 ≤ q ∧ q ≤ 16) (ha : 2 ≤ a ∧ a ≤ 8) (hz : 1 ≤ z ∧ z ≤ 4)
    (hp : post (nI c, nI q, nI a, nI z, 0, 0, 0, 0, rb_fl 128, (fun _ => 0), rb_fl 16, (fun _ => 0), (fun _ => 0), (fun _ => 0), (fun _ => 0), (fun _ => 0), (fun _ => 0), (fun _ => 0))) : wpX_init post 10 868 (0, 0, 0, 0, 0, 0, 0, 0) (nI c) (nI q) (nI a) (nI z) := by
  have C : ∀ (W : Int32 → Prop) (lo hi n : Nat), lo ≤ n → n ≤ hi → hi < 2 ^ 31 → W (nI n) → wpX_clamp W () (nI n) (nI lo) (nI hi) := fun W lo hi n h1 h2 h3 w => br_t (nI_le h1 (by omega)) (br_t (nI_le h2 h3) w)
  refine ⟨by omega, by omega, by omega, by omega, by omega, by omega, by omega, by omega, by omega, by omega, by omega, by omega, by omega, by omega, by omega, by omega, by omega, by omega, by omega, by omega, ?_⟩
  refine C _ 8 64 c hc.1 hc.2 (by omega) ?_
  refine C _ 4 16 q hq.1 hq.2 (by omega) ?_
  refine C _ 2 8 a ha.1 ha.2 (by omega) ?_
  refine C _ 1 4 z hz.1 hz.2 (by omega) ?_
  exact rb_xini hp
theorem i_vc (xs : Nat → Int32) (L : Nat) (hL : L ≤ 260) : wpL_law (fun r => r = 1) L xs := by
  unfold wpL_law
  refine rb_cell 0 rfl (by omega) (by omega) (fun r1 => ?_)
  obtain ⟨j1, h1, H1⟩ := rb_modE r1 57 (by omega) (by omega)
  refine H1 _ (nm_r (nI_add 8 j1) ?_)
  refine rb_cell 1 rfl (by omega) (by omega) (fun r2 => ?_)
  obtain ⟨j2, h2, H2⟩ := rb_modE r2 13 (by omega) (by omega)
  refine H2 _ (nm_r (nI_add 4 j2) ?_)
  refine rb_cell 2 rfl (by omega) (by omega) (fun r3 => ?_)
  obtain ⟨j3, h3, H3⟩ := rb_modE r3 7 (by omega) (by omega)
  refine H3 _ (nm_r (nI_add 2 j3) ?_)
  refine rb_cell 3 rfl (by omega) (by omega) (fun r4 => ?_)
  obtain ⟨j4, h4, H4⟩ := rb_modE r4 4 (by omega) (by omega)
  refine H4 _ (nm_r (nI_add 1 j4) ?_)
  refine ⟨10, 868, by omega, by omega, rb_xinit ⟨by omega, by omega⟩ ⟨by omega, by omega⟩ ⟨by omega, by omega⟩ ⟨by omega, by omega⟩ ⟨by omega, by omega, 10, 868, by omega, by omega, rb_xinit ⟨by omega, by omega⟩ ⟨by omega, by omega⟩ ⟨by omega, by omega⟩ ⟨by omega, by omega⟩ ⟨by decide, nm_r (e' := nI (10 + L / 5)) ?_ ?_⟩⟩⟩
  · show nI 10 + nI L / nI 5 = nI (10 + L / 5)
    rw [pk_div (by omega) (by omega) (by omega), nI_add]
  · refine ⟨10 + L / 5 + 1, rb_l93 (by omega) (by omega) (10 + L / 5 + 1) 0 0 0 0 (rb_fl 128) (fun _ => 0) (rb_fl 16) (fun _ => 0) (fun _ => 0) (fun _ => 0) (fun _ => 0) (fun _ => 0) (fun _ => 0) (fun _ => 0) (fun _ => 0) (fun _ => 0) (fun _ => 0) (fun _ => 0) (fun _ => 0) (fun _ => 0) (fun _ => 0) (fun _ => 0) (fun _ => 0) (fun _ => 0) (Nat.zero_le _) (by omega) ?_⟩
    have hcut : ∀ tok : Nat → Int32, rb_Cut (fun _ => 0) (fun _ => 0) (fun _ => 0) (fun _ => 0) 0 tok := fun tok j hj => absurd hj (by omega)
    have hbi : ∀ tok : Nat → Int32, rb_Bi 0 0 (fun _ => 0) tok := fun tok j hj => absurd hj (by omega)
    exact ⟨⟨by omega, by omega, by omega, by omega, by omega, Nat.zero_le _, Nat.le_refl _⟩, ⟨by omega, by omega, by omega, by omega, fun i => rb_fl_in i (by omega), fun i => rb_fl_in i (by omega), fun i => ⟨0, by omega, rfl⟩, fun i hi => absurd hi (by omega)⟩,
      fun i => ⟨0, by omega, rfl⟩, ⟨rfl, rfl, Nat.le_refl _, rfl, by show 0 < 1 + j4; omega, fun i hi => absurd hi (by omega)⟩, hcut _, hcut _, hbi _, hbi _⟩
