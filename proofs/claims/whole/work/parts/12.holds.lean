/-! ===== holds, matching ===== -/
/-- what holds answers for document d -/
def ph_hr (wd ln q : Nat → Int32) (n d : Nat) : Int32 := if (ph_c q n).1 + (ph_c q n).2 = 0 then ph_V wd (24 * d) (ph_l ln d) q n 0 0 0 else 0
section
variable {wd ln q np tr eb rw sk pl : Nat → Int32} {n d : Nat}
theorem ph_n0 (C : (ph_c q n).1 + (ph_c q n).2 = 0) : 0 < n := by
  cases n with
  | zero => exact absurd (show (0 + 1 = 0) from C) (by decide)
  | succ n => omega
theorem ph_q0 (R : ph_R n wd ln q) (C : (ph_c q n).1 + (ph_c q n).2 = 0) : 20 ≤ ph_t q 0 := by
  have ok := R.2.1 0 (ph_n0 C)
  have e : (ph_c q 0).1 = 0 := rfl
  have := ok.2
  omega
theorem ph_h01 (R : ph_R n wd ln q) (C : (ph_c q n).1 + (ph_c q n).2 = 0) : ph_V wd (24 * d) (ph_l ln d) q n 0 0 0 = 0 ∨ ph_V wd (24 * d) (ph_l ln d) q n 0 0 0 = 1 :=
  (ph_VI_all (wd := wd) (o := 24 * d) (L := ph_l ln d) C R.2.1 n 0 (by omega) 0 (Nat.le_refl 0) (ph_n0 C)).2 (ph_q0 R C)
theorem ph_hX {post : Int32 → SX → Prop} (R : ph_R n wd ln q) (hd : d < 6) (H : ∀ np tr eb, post (ph_hr wd ln q n d) (nI n, nI (ph_c q n).1, nI (ph_c q n).2, wd, ln, q, np, tr, eb)) :
    wpX_holds post (nI n, nI (ph_c q n).1, nI (ph_c q n).2, wd, ln, q, np, tr, eb) (nI d) := by
  have B := ph_c_le q n
  have hn := R.1
  unfold wpX_holds
  dsimp only
  refine ph_xd1 hd (br_f (by decide) (ph_xc (by omega) ?_))
  by_cases C : (ph_c q n).1 + (ph_c q n).2 = 0
  · refine br_f (by rw [show ph_cp (ph_c q n) = 1 from if_pos C]; decide) (ph_eX R hd C (fun np tr eb X => ?_))
    have e : tr 0 = ph_V wd (24 * d) (ph_l ln d) q n 0 0 0 := X.2.2 0 (Nat.le_refl 0) (ph_n0 C) (ph_q0 R C)
    have h := H np tr eb
    rw [show ph_hr wd ln q n d = ph_V wd (24 * d) (ph_l ln d) q n 0 0 0 from if_pos C, ← e] at h
    have z := ph_h01 (d := d) R C
    rw [← e] at z
    dsimp only
    refine ⟨?_, h⟩
    rcases z with z | z <;> rw [z] <;> decide
  · have h := H np tr eb
    rw [show ph_hr wd ln q n d = 0 from if_neg C] at h
    exact br_t (if_neg C) h
theorem ph_hY {post : Int32 → SY → Prop} (R : ph_R n wd ln q) (hd : d < 6) (H : ∀ rw sk pl, post (ph_hr wd ln q n d) (nI n, ln, wd, q, rw, sk, pl)) :
    wpY_holds post (nI n, ln, wd, q, rw, sk, pl) (nI d) := by
  unfold wpY_holds
  dsimp only
  refine ph_yd1 hd (br_f (by decide) (ph_yc R.1 R.2.1 (fun pl' => ?_)))
  dsimp only
  by_cases C : (ph_c q n).1 + (ph_c q n).2 = 0
  · refine br_f (by rw [show ph_cp (ph_c q n) = 1 from if_pos C]; decide) (ph_wY R hd C (fun rw sk Y => ?_))
    have e : rw 0 = ph_V wd (24 * d) (ph_l ln d) q n 0 0 0 := Y.2.2 0 (Nat.le_refl 0) (ph_n0 C) (ph_q0 R C)
    have h := H rw sk pl'
    rw [show ph_hr wd ln q n d = ph_V wd (24 * d) (ph_l ln d) q n 0 0 0 from if_pos C, ← e] at h
    have z := ph_h01 (d := d) R C
    rw [← e] at z
    dsimp only
    refine br_c (fun y => ?_) (fun y => ?_)
    · rw [y] at h; exact h
    · rw [z.resolve_right y] at h; exact h
  · have h := H rw sk pl'
    rw [show ph_hr wd ln q n d = 0 from if_neg C] at h
    exact br_t (if_neg C) h
/-- what matching has after d documents -/
def ph_mt (wd ln q : Nat → Int32) (n : Nat) : Nat → Int32
  | 0 => 0
  | d + 1 => if ph_hr wd ln q n d = 0 then ph_mt wd ln q n d else ph_mt wd ln q n d ||| ((1 : Int32) <<< (nI d &&& 31))
theorem ph_mX {post : Int32 → SX → Prop} (R : ph_R n wd ln q) (H : ∀ np tr eb, post (ph_mt wd ln q n 6) (nI n, nI (ph_c q n).1, nI (ph_c q n).2, wd, ln, q, np, tr, eb)) :
    ∀ r d, d + r = 6 → ∀ np tr eb, wX_matching_4 post (r + 1) (ph_mt wd ln q n d) (nI d) (nI n) (nI (ph_c q n).1) (nI (ph_c q n).2) wd ln q np tr eb := by
  intro r
  induction r with
  | zero =>
    intro d hd np tr eb
    have e : d = 6 := by omega
    subst e
    rw [wX_matching_4]
    exact br_t (nI_le (a := 6) (b := 6) (by omega) (by decide)) (H np tr eb)
  | succ r ih =>
    intro d hd np tr eb
    rw [wX_matching_4]
    dsimp only
    refine br_f (nI_ge (b := 6) (by omega) (by decide)) (ph_hX R (by omega) (fun np tr eb => ?_))
    have j := ih (d + 1) (by omega) np tr eb
    dsimp only
    refine br_c (fun z => ?_) (fun z => ?_)
    · rw [show ph_mt wd ln q n (d + 1) = ph_mt wd ln q n d from if_pos z] at j
      exact nm_r (nI_1 d) j
    · rw [show ph_mt wd ln q n (d + 1) = ph_mt wd ln q n d ||| ((1 : Int32) <<< (nI d &&& 31)) from if_neg z] at j
      exact nm_e (nm_r (nI_1 d) j)
theorem ph_mY {post : Int32 → SY → Prop} (R : ph_R n wd ln q) (H : ∀ rw sk pl, post (ph_mt wd ln q n 6) (nI n, ln, wd, q, rw, sk, pl)) :
    ∀ r d, d + r = 6 → ∀ rw sk pl, wY_matching_4 post (r + 1) (ph_mt wd ln q n d) (nI d) (nI n) ln wd q rw sk pl := by
  intro r
  induction r with
  | zero =>
    intro d hd rw sk pl
    have e : d = 6 := by omega
    subst e
    rw [wY_matching_4]
    exact br_t (nI_le (a := 6) (b := 6) (by omega) (by decide)) (H rw sk pl)
  | succ r ih =>
    intro d hd rw sk pl
    rw [wY_matching_4]
    dsimp only
    refine br_f (nI_ge (b := 6) (by omega) (by decide)) (ph_hY R (by omega) (fun rw sk pl => ?_))
    have j := ih (d + 1) (by omega) rw sk pl
    dsimp only
    refine br_c (fun z => ?_) (fun z => ?_)
    · rw [show ph_mt wd ln q n (d + 1) = ph_mt wd ln q n d from if_pos z] at j
      exact nm_r (nI_1 d) j
    · rw [show ph_mt wd ln q n (d + 1) = ph_mt wd ln q n d ||| ((1 : Int32) <<< (nI d &&& 31)) from if_neg z] at j
      exact nm_e (nm_r (nI_1 d) j)
end
theorem i_vc_holds {k : Nat} {u : SX} {v : SY} (I : i_Rel k u v) (hk : k + 4 ≤ 2048) (v1 : Int32) : wpX_holds (fun r u' => wpY_holds (fun r' v' => r' = r ∧ i_Rel (k + 4) u' v') v v1) u v1 := by
  obtain ⟨n, wd, ln, q, np, tr, eb, rw, sk, pl, rfl, rfl, R⟩ := I
  have A : ∀ {v1 : Int32}, (v1 < 0 ∨ nI 6 ≤ v1) → wpX_holds (fun r u' => wpY_holds (fun r' v' => r' = r ∧ i_Rel (k + 4) u' v') (nI n, ln, wd, q, rw, sk, pl) v1) (nI n, nI (ph_c q n).1, nI (ph_c q n).2, wd, ln, q, np, tr, eb) v1 := fun {v1} h => by
    unfold wpX_holds
    dsimp only
    refine ph_xd0 h (br_t rfl ?_)
    unfold wpY_holds
    dsimp only
    exact ph_yd0 h (br_t rfl ⟨rfl, ph_mk R⟩)
  rcases pk_ix v1 (n := 6) (by omega) with h | h | ⟨d, hd, rfl⟩
  · exact A (Or.inl h)
  · exact A (Or.inr h)
  · exact ph_hX R hd (fun np tr eb => ph_hY R hd (fun rw sk pl => ⟨rfl, ph_mk R⟩))
theorem i_vc_matching {k : Nat} {u : SX} {v : SY} (I : i_Rel k u v) (hk : k + 4 ≤ 2048) : wpX_matching (fun r u' => wpY_matching (fun r' v' => r' = r ∧ i_Rel (k + 4) u' v') v) u := by
  obtain ⟨n, wd, ln, q, np, tr, eb, rw, sk, pl, rfl, rfl, R⟩ := I
  unfold wpX_matching
  dsimp only
  refine ⟨7, ph_mX R (fun np tr eb => ?_) 6 0 (by omega) np tr eb⟩
  unfold wpY_matching
  dsimp only
  exact ⟨7, ph_mY R (fun rw sk pl => ⟨rfl, ph_mk R⟩) 6 0 (by omega) rw sk pl⟩
