/-! ===== begins, ends ===== -/
def ph_fb (v : Nat → Int32) : Nat → Nat → Int32
  | 0, _ => -1
  | r + 1, c => if v c = 0 then ph_fb v r (c + 1) else nI c
def ph_lb (x : Int32) : Nat → Nat → Int32
  | 0, _ => -1
  | r + 1, e => if (x >>> (nI e &&& 31)) &&& 1 = 1 then nI e else ph_lb x r (e + 1)
section
variable {f sd cd : Int32} {wd ln q np tr eb rw sk pl v : Nat → Int32} {s : Nat}
theorem ph_bX {post : Int32 → SX → Prop} (hs : s ≤ 12) (ev : ∀ b, b < 24 → eb (24 * s + b) = v b) :
    ∀ r c, c + r = 24 → post (ph_fb v r c) (f, sd, cd, wd, ln, q, np, tr, eb) → wX_begins_27 post (nI s) f sd cd wd ln q np tr eb (r + 1) (nI c) := by
  intro r
  induction r with
  | zero =>
    intro c hc H
    have e : c = 24 := by omega
    subst e
    rw [wX_begins_27]
    exact br_t (nI_le (a := 24) (b := 24) (by omega) (by decide)) H
  | succ r ih =>
    intro c hc H
    rw [wX_begins_27]
    dsimp only
    rw [ph_ix s c, nI_clamp (n := 24 * s + c) (by omega), ev c (by omega)]
    refine br_f (nI_ge (b := 24) (by omega) (by decide)) ⟨vp_in_nI (by omega) (by decide), br_c (fun z => ?_) (fun z => ?_)⟩
    · rw [show ph_fb v (r + 1) c = ph_fb v r (c + 1) from if_pos z] at H
      exact nm_r (nI_1 c) (ih (c + 1) (by omega) H)
    · rw [show ph_fb v (r + 1) c = nI c from if_neg z] at H
      exact H
/-- from the place B on, where nothing is passed over any more -/
theorem ph_bY {post : Int32 → SY → Prop} {x3 : Int32} {B : Nat} (hs : s < 12) (ev : ∀ b, b < 24 → rw (24 * s + b) = v b) (h1 : ∀ c, B ≤ c → c < 24 → ¬ nI c < x3) :
    ∀ r c, c + r = 24 → B ≤ c → post (ph_fb v r c) (f, ln, wd, q, rw, sk, pl) → wY_begins_11 post x3 (nI s) f ln wd q rw sk pl (r + 1) (nI c) := by
  intro r
  induction r with
  | zero =>
    intro c hc _ H
    have e : c = 24 := by omega
    subst e
    rw [wY_begins_11]
    exact br_t (nI_le (a := 24) (b := 24) (by omega) (by decide)) H
  | succ r ih =>
    intro c hc hB H
    rw [wY_begins_11]
    dsimp only
    rw [ph_iy s c, nI_clamp (n := 24 * s + c) (by omega), ev c (by omega)]
    refine br_f (nI_ge (b := 24) (by omega) (by decide)) (br_f (nI_pos (by omega)) (br_f (h1 c hB (by omega)) ⟨vp_in_nI (by omega) (by decide), br_c (fun z => ?_) (fun z => ?_)⟩))
    · rw [show ph_fb v (r + 1) c = ph_fb v r (c + 1) from if_pos z] at H
      exact nm_r (nI_1 c) (ih (c + 1) (by omega) (by omega) H)
    · rw [show ph_fb v (r + 1) c = nI c from if_neg z] at H
      exact H
theorem ph_bY0 {post : Int32 → SY → Prop} {x3 : Int32} {B : Nat} (hB : B ≤ 24) (hs : s < 12) (ev : ∀ b, b < 24 → rw (24 * s + b) = v b) (h0 : ∀ c, c < B → nI c < x3) (h1 : ∀ c, B ≤ c → c < 24 → ¬ nI c < x3)
    (H : post (ph_fb v (24 - B) B) (f, ln, wd, q, rw, sk, pl)) :
    ∀ r c, c + r = B → wY_begins_11 post x3 (nI s) f ln wd q rw sk pl (24 - c + 1) (nI c) := by
  intro r
  induction r with
  | zero =>
    intro c hc
    have e : c = B := by omega
    subst e
    exact ph_bY hs ev h1 (24 - c) c (by omega) (Nat.le_refl c) H
  | succ r ih =>
    intro c hc
    have j := ih (c + 1) (by omega)
    rw [show 24 - (c + 1) + 1 = 24 - c by omega] at j
    rw [wY_begins_11]
    exact br_f (nI_ge (b := 24) (by omega) (by decide)) (br_f (nI_pos (by omega)) (br_t (h0 c (by omega)) (nm_r (nI_1 c) j)))
theorem ph_lX {p : Int32 → Prop} {x : Int32} : ∀ r e, e + r = 24 → p (ph_lb x r e) → wX_lowestBit_2 p x (r + 1) (nI e) := by
  intro r
  induction r with
  | zero =>
    intro e he H
    have e' : e = 24 := by omega
    subst e'
    rw [wX_lowestBit_2]
    exact br_t (nI_le (a := 24) (b := 24) (by omega) (by decide)) H
  | succ r ih =>
    intro e he H
    rw [wX_lowestBit_2]
    refine br_f (nI_ge (b := 24) (by omega) (by decide)) (br_c (fun z => ?_) (fun z => ?_))
    · rw [show ph_lb x (r + 1) e = nI e from if_pos z] at H
      exact H
    · rw [show ph_lb x (r + 1) e = ph_lb x r (e + 1) from if_neg z] at H
      exact nm_r (nI_1 e) (ih (e + 1) (by omega) H)
theorem ph_lY {post : Int32 → SY → Prop} {b : Nat} (hs : s < 12) (hb : b < 24) {x : Int32} (ev : rw (24 * s + b) = x) :
    ∀ r e, e + r = 24 → post (ph_lb x r e) (f, ln, wd, q, rw, sk, pl) → wY_ends_11 post (nI b) (nI s) f ln wd q rw sk pl (r + 1) (nI e) := by
  intro r
  induction r with
  | zero =>
    intro e he H
    have e' : e = 24 := by omega
    subst e'
    rw [wY_ends_11]
    exact br_t (nI_le (a := 24) (b := 24) (by omega) (by decide)) H
  | succ r ih =>
    intro e he H
    rw [wY_ends_11]
    dsimp only
    rw [ph_iy s b, nI_clamp (n := 24 * s + b) (by omega), ev]
    refine br_f (nI_ge (b := 24) (by omega) (by decide)) (br_f (nI_pos (by omega)) (br_f (nI_pos (by omega)) (br_f (nI_ge (b := 24) (by omega) (by decide)) ⟨vp_in_nI (by omega) (by decide), br_c (fun z => ?_) (fun z => ?_)⟩)))
    · rw [show ph_lb x (r + 1) e = nI e from if_pos z] at H
      exact H
    · rw [show ph_lb x (r + 1) e = ph_lb x r (e + 1) from if_neg z] at H
      exact nm_r (nI_1 e) (ih (e + 1) (by omega) H)
/-- nothing found: the reference's loops answer NONE at once -/
theorem ph_bYn {post : Int32 → SY → Prop} {x3 : Int32} (H : post (-1) (f, ln, wd, q, rw, sk, pl)) : wY_begins_11 post x3 (-1) f ln wd q rw sk pl 1 0 := by
  rw [wY_begins_11]
  exact br_f (by decide) (br_t (by decide) H)
theorem ph_lYn {post : Int32 → SY → Prop} {x3 : Int32} (H : post (-1) (f, ln, wd, q, rw, sk, pl)) : wY_ends_11 post x3 (-1) f ln wd q rw sk pl 1 0 := by
  rw [wY_ends_11]
  exact br_f (by decide) (br_t (by decide) H)
theorem ph_lYo {post : Int32 → SY → Prop} {x3 : Int32} (hs : s < 12) (hx : x3 < 0 ∨ nI 24 ≤ x3) (H : post (-1) (f, ln, wd, q, rw, sk, pl)) : wY_ends_11 post x3 (nI s) f ln wd q rw sk pl 1 0 := by
  rw [wY_ends_11]
  exact br_f (by decide) (br_f (nI_pos (by omega)) (br_c (fun _ => H) (fun z => br_t (hx.resolve_left z) H)))
end
theorem ph_neN {j : Nat} (h : j < 100) : ¬ nI (j + 1) = -1 := by
  intro z
  have y : ¬ nI (j + 1) < 0 := nI_pos (by omega)
  rw [z] at y
  exact y (by decide)
/-- where begins starts -/
def ph_B (x : Int32) : Nat := min x.toNatClampNeg 24
theorem ph_B_n {x : Int32} (h : x < 0) : ph_B x = 0 := by
  unfold ph_B
  have e : x.toNatClampNeg = 0 := by
    have : x.toInt < 0 := by
      have := Int32.lt_iff_toInt_lt.mp h
      exact this
    show x.toInt.toNat = 0
    omega
  rw [e]; rfl
theorem ph_B_p {j : Nat} (h : j < 2 ^ 31) : ph_B (nI j) = min j 24 := by
  unfold ph_B; rw [nI_clamp h]
theorem ph_B_0 (x : Int32) : ∀ c, c < ph_B x → nI c < x := by
  intro c hc
  by_cases h : x < 0
  · rw [ph_B_n h] at hc; omega
  · obtain ⟨j, hj, rfl⟩ := nI_of h
    rw [ph_B_p hj] at hc
    exact nI_lt (by omega) hj
theorem ph_B_1 (x : Int32) : ∀ c, ph_B x ≤ c → c < 24 → ¬ nI c < x := by
  intro c hc hc2
  by_cases h : x < 0
  · intro z
    exact nI_pos (n := c) (by omega) (Int32.lt_trans z h)
  · obtain ⟨j, hj, rfl⟩ := nI_of h
    rw [ph_B_p hj] at hc
    exact nI_nlt (by omega) (by omega)
theorem ph_begX {n k : Nat} {k1 k3 : Int32} {wd ln q np tr eb rw sk pl : Nat → Int32} {d : Nat} (R : ph_R n wd ln q) (hd : d < 6) :
    wpX_begins (fun r u' => wpY_begins (fun r' v' => r' = r ∧ i_Rel (k + 4) u' v') (nI n, ln, wd, q, rw, sk, pl) k1 (nI d) k3) (nI n, nI (ph_c q n).1, nI (ph_c q n).2, wd, ln, q, np, tr, eb) k1 (nI d) k3 := by
  have hn := R.1
  unfold wpX_begins
  dsimp only
  refine ph_eeX R hd (fun h => ?_) (fun j h np tr eb ev => ?_)
  · dsimp only
    refine br_t rfl ?_
    unfold wpY_begins
    dsimp only
    refine ph_fdY R hd (fun _ rw sk pl => ?_) (fun j' h' => absurd (h.symm.trans h') (by simp))
    dsimp only
    exact ⟨1, ph_bYn ⟨rfl, ph_mk R⟩⟩
  · obtain ⟨_, jn, _⟩ := ph_fd_s R h
    dsimp only
    refine br_f (ph_neN (by omega)) ?_
    have Y : wpY_begins (fun r' v' => r' = ph_fb (ph_V wd (24 * d) (ph_l ln d) q n 0 (j + 1)) (24 - ph_B k3) (ph_B k3) ∧ i_Rel (k + 4) (nI n, nI (ph_c q n).1, nI (ph_c q n).2, wd, ln, q, np, tr, eb) v') (nI n, ln, wd, q, rw, sk, pl) k1 (nI d) k3 := by
      unfold wpY_begins
      dsimp only
      refine ph_fdY R hd (fun h' => absurd (h.symm.trans h') (by simp)) (fun j' h' rw sk pl ev' => ?_)
      have e : j' = j := by
        have := h.symm.trans h'
        cases this
        rfl
      subst e
      dsimp only
      exact ⟨25, ph_bY0 (B := ph_B k3) (Nat.min_le_right _ _) (by omega) ev' (ph_B_0 k3) (ph_B_1 k3) ⟨rfl, ph_mk R⟩ (ph_B k3) 0 (by omega)⟩
    refine br_c (fun z => ?_) (fun z => ?_)
    · obtain ⟨c, hc, rfl⟩ := nI_of (x := k3) (Int32.not_lt.mpr z)
      by_cases y : c < 24
      · have e : ph_B (nI c) = c := by rw [ph_B_p hc]; omega
        rw [e] at Y
        exact ⟨24 - c + 1, ph_bX (by omega) ev (24 - c) c (by omega) Y⟩
      · have e : ph_B (nI c) = 24 := by rw [ph_B_p hc]; omega
        rw [e] at Y
        refine ⟨1, ?_⟩
        rw [wX_begins_27]
        exact br_t (nI_le (a := 24) (by omega) hc) Y
    · have z' : k3 < 0 := Int32.not_le.mp z
      rw [ph_B_n z'] at Y
      exact ⟨25, ph_bX (by omega) ev 24 0 (by omega) Y⟩
theorem i_vc_begins {k : Nat} {u : SX} {v : SY} (I : i_Rel k u v) (hk : k + 4 ≤ 2048) (v1 : Int32) (v2 : Int32) (v3 : Int32) : wpX_begins (fun r u' => wpY_begins (fun r' v' => r' = r ∧ i_Rel (k + 4) u' v') v v1 v2 v3) u v1 v2 v3 := by
  obtain ⟨n, wd, ln, q, np, tr, eb, rw, sk, pl, rfl, rfl, R⟩ := I
  have A : ∀ {v2 : Int32}, (v2 < 0 ∨ nI 6 ≤ v2) → wpX_begins (fun r u' => wpY_begins (fun r' v' => r' = r ∧ i_Rel (k + 4) u' v') (nI n, ln, wd, q, rw, sk, pl) v1 v2 v3) (nI n, nI (ph_c q n).1, nI (ph_c q n).2, wd, ln, q, np, tr, eb) v1 v2 v3 := fun {v2} h => by
    unfold wpX_begins
    dsimp only
    refine ph_eeX0 h ?_
    dsimp only
    refine br_t rfl ?_
    unfold wpY_begins
    dsimp only
    refine ph_fdY0 h ?_
    dsimp only
    exact ⟨1, ph_bYn ⟨rfl, ph_mk R⟩⟩
  rcases pk_ix v2 (n := 6) (by omega) with h | h | ⟨d, hd, rfl⟩
  · exact A (Or.inl h)
  · exact A (Or.inr h)
  · exact ph_begX R hd
/-- the reference, where b is no place -/
theorem ph_endY {n k : Nat} {k1 d1 k3 : Int32} {wd ln q np tr eb rw sk pl : Nat → Int32} (R : ph_R n wd ln q) (hx : k3 < 0 ∨ nI 24 ≤ k3) :
    wpY_ends (fun r' v' => r' = -1 ∧ i_Rel (k + 4) (nI n, nI (ph_c q n).1, nI (ph_c q n).2, wd, ln, q, np, tr, eb) v') (nI n, ln, wd, q, rw, sk, pl) k1 d1 k3 := by
  have hn := R.1
  unfold wpY_ends
  dsimp only
  have A : ∀ {d1 : Int32}, (d1 < 0 ∨ nI 6 ≤ d1) → wpY_find (fun r_1 u => ∃ n11 : Nat, wY_ends_11 (fun r' v' => r' = -1 ∧ i_Rel (k + 4) (nI n, nI (ph_c q n).1, nI (ph_c q n).2, wd, ln, q, np, tr, eb) v') k3 r_1 u.1 u.2.1 u.2.2.1 u.2.2.2.1 u.2.2.2.2.1 u.2.2.2.2.2.1 u.2.2.2.2.2.2 n11 0) (nI n, ln, wd, q, rw, sk, pl) k1 d1 := fun {d1} h =>
    ph_fdY0 h ⟨1, ph_lYn ⟨rfl, ph_mk R⟩⟩
  rcases pk_ix d1 (n := 6) (by omega) with h | h | ⟨d, hd, rfl⟩
  · exact A (Or.inl h)
  · exact A (Or.inr h)
  · refine ph_fdY R hd (fun _ rw sk pl => ?_) (fun j h rw sk pl ev => ?_)
    · dsimp only
      exact ⟨1, ph_lYn ⟨rfl, ph_mk R⟩⟩
    · obtain ⟨_, jn, _⟩ := ph_fd_s R h
      dsimp only
      exact ⟨1, ph_lYo (by omega) hx ⟨rfl, ph_mk R⟩⟩
theorem ph_endX {n k b : Nat} {k1 : Int32} {wd ln q np tr eb rw sk pl : Nat → Int32} {d : Nat} (R : ph_R n wd ln q) (hd : d < 6) (hb : b < 24) :
    wpX_ends (fun r u' => wpY_ends (fun r' v' => r' = r ∧ i_Rel (k + 4) u' v') (nI n, ln, wd, q, rw, sk, pl) k1 (nI d) (nI b)) (nI n, nI (ph_c q n).1, nI (ph_c q n).2, wd, ln, q, np, tr, eb) k1 (nI d) (nI b) := by
  have hn := R.1
  unfold wpX_ends
  dsimp only
  refine br_f (nI_pos (by omega)) (br_t (nI_lt (b := 24) hb (by decide)) ?_)
  refine ph_eeX R hd (fun h => ?_) (fun j h np tr eb ev => ?_)
  · dsimp only
    refine br_t rfl ?_
    unfold wpY_ends
    dsimp only
    refine ph_fdY R hd (fun _ rw sk pl => ?_) (fun j' h' => absurd (h.symm.trans h') (by simp))
    dsimp only
    exact ⟨1, ph_lYn ⟨rfl, ph_mk R⟩⟩
  · obtain ⟨_, jn, _⟩ := ph_fd_s R h
    dsimp only
    refine br_f (ph_neN (by omega)) ?_
    rw [ph_ix (j + 1) b, nI_clamp (n := 24 * (j + 1) + b) (by omega), ev b hb]
    refine ⟨vp_in_nI (by omega) (by decide), ?_⟩
    unfold wpX_lowestBit
    refine ⟨25, ph_lX 24 0 (by omega) ?_⟩
    unfold wpY_ends
    dsimp only
    refine ph_fdY R hd (fun h' => absurd (h.symm.trans h') (by simp)) (fun j' h' rw sk pl ev' => ?_)
    have e : j' = j := by
      have := h.symm.trans h'
      cases this
      rfl
    subst e
    dsimp only
    exact ⟨25, ph_lY (by omega) hb (ev' b hb) 24 0 (by omega) ⟨rfl, ph_mk R⟩⟩
theorem i_vc_ends {k : Nat} {u : SX} {v : SY} (I : i_Rel k u v) (hk : k + 4 ≤ 2048) (v1 : Int32) (v2 : Int32) (v3 : Int32) : wpX_ends (fun r u' => wpY_ends (fun r' v' => r' = r ∧ i_Rel (k + 4) u' v') v v1 v2 v3) u v1 v2 v3 := by
  obtain ⟨n, wd, ln, q, np, tr, eb, rw, sk, pl, rfl, rfl, R⟩ := I
  rcases pk_ix v3 (n := 24) (by omega) with h | h | ⟨b, hb, rfl⟩
  · unfold wpX_ends
    dsimp only
    exact br_t h (ph_endY R (Or.inl h))
  · unfold wpX_ends
    dsimp only
    refine br_c (fun _ => ph_endY R (Or.inr h)) (fun _ => br_f (Int32.not_lt.mpr h) (ph_endY R (Or.inr h)))
  · have A : ∀ {v2 : Int32}, (v2 < 0 ∨ nI 6 ≤ v2) → wpX_ends (fun r u' => wpY_ends (fun r' v' => r' = r ∧ i_Rel (k + 4) u' v') (nI n, ln, wd, q, rw, sk, pl) v1 v2 (nI b)) (nI n, nI (ph_c q n).1, nI (ph_c q n).2, wd, ln, q, np, tr, eb) v1 v2 (nI b) := fun {v2} h => by
      unfold wpX_ends
      dsimp only
      refine br_f (nI_pos (by omega)) (br_t (nI_lt (b := 24) hb (by decide)) ?_)
      refine ph_eeX0 h ?_
      dsimp only
      refine br_t rfl ?_
      unfold wpY_ends
      dsimp only
      refine ph_fdY0 h ?_
      dsimp only
      exact ⟨1, ph_lYn ⟨rfl, ph_mk R⟩⟩
    rcases pk_ix v2 (n := 6) (by omega) with h | h | ⟨d, hd, rfl⟩
    · exact A (Or.inl h)
    · exact A (Or.inr h)
    · exact ph_endX R hd hb
