/-! ===== hasTokens, having, frequency ===== -/
def ph_ht (q : Nat → Int32) : Nat → Int32
  | 0 => 0
  | m + 1 => if q m = 23 then ph_ht q m + 1 else ph_ht q m
theorem ph_htX {post : Int32 → Prop} {n : Nat} {sd cd : Int32} {wd ln q np tr eb : Nat → Int32} (hn : n ≤ 12) (h : post (ph_ht q n)) :
    ∀ r m, m + r = n → wX_hasTokens_4 post (nI n) sd cd wd ln q np tr eb (r + 1) (ph_ht q m) (nI m) := by
  intro r
  induction r with
  | zero =>
    intro m hm
    have e : m = n := by omega
    subst e
    rw [wX_hasTokens_4]
    exact pk_le m m (fun _ => h) (fun z => absurd z (by omega))
  | succ r ih =>
    intro m hm
    have i := ih (m + 1) (by omega)
    rw [wX_hasTokens_4]
    dsimp only
    rw [nI_clamp (n := m) (by omega)]
    refine pk_le n m (fun z => absurd z (by omega)) (fun _ => ⟨vp_in_nI (by omega) (by decide), br_c (fun z => ?_) (fun z => ?_)⟩)
    · rw [show ph_ht q (m + 1) = ph_ht q m + 1 from if_pos z] at i
      exact nm_e (nm_r (nI_1 m) i)
    · rw [show ph_ht q (m + 1) = ph_ht q m from if_neg z] at i
      exact nm_r (nI_1 m) i
theorem ph_htY {post : Int32 → Prop} {n : Nat} {sz wd q rw sk pl : Nat → Int32} (hn : n ≤ 12) (h : post (ph_ht q n)) :
    ∀ r m, m + r = n → wY_hasTokens_4 post (nI n) sz wd q rw sk pl (r + 1) (ph_ht q m) (nI m) := by
  intro r
  induction r with
  | zero =>
    intro m hm
    have e : m = n := by omega
    subst e
    rw [wY_hasTokens_4]
    exact pk_le m m (fun _ => h) (fun z => absurd z (by omega))
  | succ r ih =>
    intro m hm
    have i := ih (m + 1) (by omega)
    rw [wY_hasTokens_4]
    dsimp only
    rw [nI_clamp (n := m) (by omega)]
    refine pk_le n m (fun z => absurd z (by omega)) (fun _ => ⟨vp_in_nI (by omega) (by decide), br_c (fun z => ?_) (fun z => ?_)⟩)
    · rw [show ph_ht q (m + 1) = ph_ht q m + 1 from if_pos z] at i
      exact nm_e (nm_r (nI_1 m) i)
    · rw [show ph_ht q (m + 1) = ph_ht q m from if_neg z] at i
      exact nm_r (nI_1 m) i
theorem i_vc_hasTokens {k : Nat} {u : SX} {v : SY} (I : i_Rel k u v) (hk : k + 4 ≤ 2048) : wpX_hasTokens (fun r => wpY_hasTokens (fun r' => r' = r ∧ i_Rel (k + 4) u v) v) u := by
  obtain ⟨n, wd, ln, q, np, tr, eb, rw, sk, pl, rfl, rfl, R⟩ := I
  unfold wpX_hasTokens
  dsimp only
  refine ⟨n + 1, ph_htX R.1 ?_ n 0 (by omega)⟩
  unfold wpY_hasTokens
  dsimp only
  exact ⟨n + 1, ph_htY R.1 ⟨rfl, ph_mk R⟩ n 0 (by omega)⟩
/-- how many of the first p places of the row at o have w -/
def ph_oc (wd : Nat → Int32) (w : Int32) (o : Nat) : Nat → Nat
  | 0 => 0
  | p + 1 => if wd (o + p) = w then ph_oc wd w o p + 1 else ph_oc wd w o p
theorem ph_oc_le (wd : Nat → Int32) (w : Int32) (o : Nat) : ∀ p, ph_oc wd w o p ≤ p := by
  intro p
  induction p with
  | zero => exact Nat.le_refl 0
  | succ p ih =>
    show (if wd (o + p) = w then ph_oc wd w o p + 1 else ph_oc wd w o p) ≤ p + 1
    split <;> omega
def ph_l (ln : Nat → Int32) (d : Nat) : Nat := (ln d).toNatClampNeg
theorem ph_R_l {n : Nat} {wd ln q : Nat → Int32} (R : ph_R n wd ln q) {d : Nat} (hd : d < 6) :
    ph_l ln d ≤ 24 ∧ ln d = nI (ph_l ln d) ∧ ∀ p, p < ph_l ln d → ∃ w, w ≤ 11 ∧ wd (24 * d + p) = nI w := by
  obtain ⟨l, hl, e, h⟩ := R.2.2 d hd
  have e' : ph_l ln d = l := by unfold ph_l; rw [e]; exact nI_clamp (by omega)
  rw [e']
  exact ⟨hl, e, h⟩
theorem ph_oc_neg {n : Nat} {wd ln q : Nat → Int32} (R : ph_R n wd ln q) {d : Nat} (hd : d < 6) {w : Int32} (hw : w < 0) : ∀ p, p ≤ ph_l ln d → ph_oc wd w (24 * d) p = 0 := by
  intro p
  induction p with
  | zero => intro _; rfl
  | succ p ih =>
    intro hp
    obtain ⟨x, hx, e⟩ := (ph_R_l R hd).2.2 p (by omega)
    show (if wd (24 * d + p) = w then ph_oc wd w (24 * d) p + 1 else ph_oc wd w (24 * d) p) = 0
    rw [if_neg, ih (by omega)]
    intro z
    rw [← z, e] at hw
    exact nI_pos (by omega) hw
theorem ph_ocX {post : Int32 → Prop} {n d : Nat} {w f sd cd : Int32} {wd ln q np tr eb : Nat → Int32} (R : ph_R n wd ln q) (hd : d < 6) (h : post (nI (ph_oc wd w (24 * d) (ph_l ln d)))) :
    ∀ r p, p + r = ph_l ln d → wX_occurrences_5 post (nI d) w f sd cd wd ln q np tr eb (r + 1) (nI (ph_oc wd w (24 * d) p)) (nI p) := by
  obtain ⟨hl, el, _⟩ := ph_R_l R hd
  intro r
  induction r with
  | zero =>
    intro p hp
    have e : p = ph_l ln d := by omega
    rw [wX_occurrences_5]
    dsimp only
    rw [nI_clamp (n := d) (by omega), el]
    refine ⟨vp_in_nI hd (by decide), pk_le (ph_l ln d) p (fun _ => ?_) (fun z => absurd z (by omega))⟩
    rw [e]; exact h
  | succ r ih =>
    intro p hp
    have i := ih (p + 1) (by omega)
    rw [wX_occurrences_5]
    dsimp only
    rw [nI_clamp (n := d) (by omega), el, ph_ix, nI_clamp (n := 24 * d + p) (by omega)]
    refine ⟨vp_in_nI hd (by decide), pk_le (ph_l ln d) p (fun z => absurd z (by omega)) (fun _ => ⟨vp_in_nI (by omega) (by decide), br_c (fun z => ?_) (fun z => ?_)⟩)⟩
    · rw [show ph_oc wd w (24 * d) (p + 1) = ph_oc wd w (24 * d) p + 1 from if_pos z] at i
      exact nm_r (nI_1 _) (nm_r (nI_1 p) i)
    · rw [show ph_oc wd w (24 * d) (p + 1) = ph_oc wd w (24 * d) p from if_neg z] at i
      exact nm_r (nI_1 p) i
theorem ph_oX {post : Int32 → Prop} {n d : Nat} {w f sd cd : Int32} {wd ln q np tr eb : Nat → Int32} (R : ph_R n wd ln q) (hd : d < 6) (h : post (nI (ph_oc wd w (24 * d) (ph_l ln d)))) :
    wpX_occurrences post (f, sd, cd, wd, ln, q, np, tr, eb) (nI d) w := by
  unfold wpX_occurrences
  dsimp only
  exact ⟨ph_l ln d + 1, ph_ocX R hd h (ph_l ln d) 0 (by omega)⟩
def ph_hv (wd ln : Nat → Int32) (w : Int32) : Nat → Int32
  | 0 => 0
  | d + 1 => if ph_oc wd w (24 * d) (ph_l ln d) = 0 then ph_hv wd ln w d else ph_hv wd ln w d ||| ((1 : Int32) <<< (nI d &&& 31))
def ph_fr (wd ln : Nat → Int32) (w : Int32) : Nat → Nat
  | 0 => 0
  | d + 1 => ph_fr wd ln w d + ph_oc wd w (24 * d) (ph_l ln d)
theorem ph_hvX {post : Int32 → Prop} {n : Nat} {w f sd cd : Int32} {wd ln q np tr eb : Nat → Int32} (R : ph_R n wd ln q) (h : post (ph_hv wd ln w 6)) :
    ∀ r d, d + r = 6 → wX_having_4 post w f sd cd wd ln q np tr eb (r + 1) (ph_hv wd ln w d) (nI d) := by
  intro r
  induction r with
  | zero =>
    intro d hd
    have e : d = 6 := by omega
    subst e
    rw [wX_having_4]
    exact br_t (nI_le (a := 6) (b := 6) (by omega) (by decide)) h
  | succ r ih =>
    intro d hd
    have i := ih (d + 1) (by omega)
    have L := ph_oc_le wd w (24 * d) (ph_l ln d)
    have L2 := (ph_R_l R (d := d) (by omega)).1
    rw [wX_having_4]
    dsimp only
    refine br_f (nI_ge (b := 6) (by omega) (by decide)) (ph_oX R (by omega) ?_)
    refine pk_le (ph_oc wd w (24 * d) (ph_l ln d)) 0 (fun z => ?_) (fun z => ?_)
    · rw [show ph_hv wd ln w (d + 1) = ph_hv wd ln w d from if_pos (by omega)] at i
      exact nm_r (nI_1 d) i
    · rw [show ph_hv wd ln w (d + 1) = ph_hv wd ln w d ||| ((1 : Int32) <<< (nI d &&& 31)) from if_neg (by omega)] at i
      exact nm_e (nm_r (nI_1 d) i)
theorem ph_frX {post : Int32 → Prop} {n : Nat} {w f sd cd : Int32} {wd ln q np tr eb : Nat → Int32} (R : ph_R n wd ln q) (h : post (nI (ph_fr wd ln w 6))) :
    ∀ r d, d + r = 6 → wX_frequency_4 post w f sd cd wd ln q np tr eb (r + 1) (nI (ph_fr wd ln w d)) (nI d) := by
  intro r
  induction r with
  | zero =>
    intro d hd
    have e : d = 6 := by omega
    subst e
    rw [wX_frequency_4]
    exact br_t (nI_le (a := 6) (b := 6) (by omega) (by decide)) h
  | succ r ih =>
    intro d hd
    have i := ih (d + 1) (by omega)
    rw [wX_frequency_4]
    dsimp only
    refine br_f (nI_ge (b := 6) (by omega) (by decide)) (ph_oX R (by omega) ?_)
    exact nm_r (nI_add _ _) (nm_r (nI_1 d) i)
/-- the reference, p places into the row of d -/
def ph_ya (wd ln : Nat → Int32) (w : Int32) (d p : Nat) : Int32 :=
  if ph_oc wd w (24 * d) (min p (ph_l ln d)) = 0 then ph_hv wd ln w d else ph_hv wd ln w d ||| ((1 : Int32) <<< (nI d &&& 31))
theorem ph_ya_0 (wd ln : Nat → Int32) (w : Int32) (d : Nat) : ph_ya wd ln w d 0 = ph_hv wd ln w d := by
  unfold ph_ya
  rw [if_pos]
  rw [Nat.zero_min]; rfl
theorem ph_ya_24 {wd ln : Nat → Int32} {w : Int32} {d : Nat} (h : ph_l ln d ≤ 24) : ph_ya wd ln w d 24 = ph_hv wd ln w (d + 1) := by
  unfold ph_ya
  rw [Nat.min_eq_right h]; rfl
theorem ph_ya_n {wd ln : Nat → Int32} {w : Int32} {d p : Nat} (h : ph_l ln d ≤ p) : ph_ya wd ln w d (p + 1) = ph_ya wd ln w d p := by
  unfold ph_ya
  rw [Nat.min_eq_right h, Nat.min_eq_right (by omega)]
theorem ph_ya_f {wd ln : Nat → Int32} {w : Int32} {d p : Nat} (h : p < ph_l ln d) (z : ¬ wd (24 * d + p) = w) : ph_ya wd ln w d (p + 1) = ph_ya wd ln w d p := by
  unfold ph_ya
  rw [Nat.min_eq_left (by omega), Nat.min_eq_left (by omega), show ph_oc wd w (24 * d) (p + 1) = ph_oc wd w (24 * d) p from if_neg z]
theorem ph_ya_t {wd ln : Nat → Int32} {w : Int32} {d p : Nat} (h : p < ph_l ln d) (z : wd (24 * d + p) = w) : ph_ya wd ln w d (p + 1) = ph_ya wd ln w d p ||| ((1 : Int32) <<< (nI d &&& 31)) := by
  unfold ph_ya
  rw [Nat.min_eq_left (by omega), Nat.min_eq_left (by omega), show ph_oc wd w (24 * d) (p + 1) = ph_oc wd w (24 * d) p + 1 from if_pos z, if_neg (by omega)]
  split
  · rfl
  · rw [Int32.or_assoc, Int32.or_self]
theorem ph_hvY {post : Int32 → Prop} {n : Nat} {w f : Int32} {wd ln q rw sk pl : Nat → Int32} (R : ph_R n wd ln q) (hw : ¬ w < 0) (h : post (ph_hv wd ln w 6)) :
    ∀ r d p, p < 24 → 24 * d + p + r = 144 → wY_having_4 post w f ln wd q rw sk pl (r + 1) (ph_ya wd ln w d p) (nI (24 * d + p)) := by
  intro r
  induction r with
  | zero =>
    intro d p hp hd
    have e : d = 6 := by omega
    have e2 : p = 0 := by omega
    subst e e2
    rw [wY_having_4, ph_ya_0]
    exact br_t (nI_le (a := 144) (b := 144) (by omega) (by decide)) h
  | succ r ih =>
    intro d p hp hc
    have hd : d < 6 := by omega
    obtain ⟨hl, el, _⟩ := ph_R_l R hd
    have i : wY_having_4 post w f ln wd q rw sk pl (r + 1) (ph_ya wd ln w d (p + 1)) (nI (24 * d + p + 1)) := by
      by_cases z : p + 1 < 24
      · exact ih d (p + 1) z (by omega)
      · have e : p = 23 := by omega
        have j := ih (d + 1) 0 (by omega) (by omega)
        rw [ph_ya_0, ← ph_ya_24 hl] at j
        subst e
        exact j
    rw [wY_having_4]
    dsimp only
    rw [show (24 : Int32) = nI 24 from rfl, pk_rem (a := 24 * d + p) (by omega) (by omega) (by omega), pk_div (a := 24 * d + p) (by omega) (by omega) (by omega), show (24 * d + p) / 24 = d by omega, show (24 * d + p) % 24 = p by omega, nI_clamp (n := d) (by omega), nI_clamp (n := 24 * d + p) (by omega), el]
    refine br_f (nI_ge (b := 144) (by omega) (by decide)) (br_f hw ⟨by decide, by decide, vp_in_nI hd (by decide), pk_le (ph_l ln d) p (fun z => ?_) (fun z => ⟨vp_in_nI (by omega) (by decide), br_c (fun y => ⟨by decide, ?_⟩) (fun y => ?_)⟩)⟩)
    · rw [ph_ya_n z] at i
      exact nm_r (nI_1 _) i
    · rw [ph_ya_t z y] at i
      exact nm_e (nm_r (nI_1 _) i)
    · rw [ph_ya_f z y] at i
      exact nm_r (nI_1 _) i
theorem ph_frY {post : Int32 → Prop} {n : Nat} {w f : Int32} {wd ln q rw sk pl : Nat → Int32} (R : ph_R n wd ln q) (hw : ¬ w < 0) (h : post (nI (ph_fr wd ln w 6))) :
    ∀ r d p, p < 24 → 24 * d + p + r = 144 → wY_frequency_4 post w f ln wd q rw sk pl (r + 1) (nI (ph_fr wd ln w d + ph_oc wd w (24 * d) (min p (ph_l ln d)))) (nI (24 * d + p)) := by
  intro r
  induction r with
  | zero =>
    intro d p hp hd
    have e : d = 6 := by omega
    have e2 : p = 0 := by omega
    subst e e2
    rw [wY_frequency_4, Nat.zero_min]
    exact br_t (nI_le (a := 144) (b := 144) (by omega) (by decide)) h
  | succ r ih =>
    intro d p hp hc
    have hd : d < 6 := by omega
    obtain ⟨hl, el, _⟩ := ph_R_l R hd
    have i : wY_frequency_4 post w f ln wd q rw sk pl (r + 1) (nI (ph_fr wd ln w d + ph_oc wd w (24 * d) (min (p + 1) (ph_l ln d)))) (nI (24 * d + p + 1)) := by
      by_cases z : p + 1 < 24
      · exact ih d (p + 1) z (by omega)
      · have e : p = 23 := by omega
        have j := ih (d + 1) 0 (by omega) (by omega)
        rw [Nat.zero_min] at j
        subst e
        rw [Nat.min_eq_right hl]
        exact j
    rw [wY_frequency_4]
    dsimp only
    rw [show (24 : Int32) = nI 24 from rfl, pk_rem (a := 24 * d + p) (by omega) (by omega) (by omega), pk_div (a := 24 * d + p) (by omega) (by omega) (by omega), show (24 * d + p) / 24 = d by omega, show (24 * d + p) % 24 = p by omega, nI_clamp (n := d) (by omega), nI_clamp (n := 24 * d + p) (by omega), el]
    refine br_f (nI_ge (b := 144) (by omega) (by decide)) (br_f hw ⟨by decide, by decide, vp_in_nI hd (by decide), pk_le (ph_l ln d) p (fun z => ?_) (fun z => ⟨vp_in_nI (by omega) (by decide), br_c (fun y => ?_) (fun y => ?_)⟩)⟩)
    · rw [Nat.min_eq_right (by omega)] at i
      rw [Nat.min_eq_right (by omega)]
      exact nm_r (nI_1 _) i
    · rw [Nat.min_eq_left (by omega), show ph_oc wd w (24 * d) (p + 1) = ph_oc wd w (24 * d) p + 1 from if_pos y] at i
      rw [Nat.min_eq_left (by omega)]
      exact nm_r (nI_1 _) (nm_r (nI_1 _) i)
    · rw [Nat.min_eq_left (by omega), show ph_oc wd w (24 * d) (p + 1) = ph_oc wd w (24 * d) p from if_neg y] at i
      rw [Nat.min_eq_left (by omega)]
      exact nm_r (nI_1 _) i
theorem ph_hv_neg {n : Nat} {wd ln q : Nat → Int32} (R : ph_R n wd ln q) {w : Int32} (hw : w < 0) : ∀ d, d ≤ 6 → ph_hv wd ln w d = 0 ∧ ph_fr wd ln w d = 0 := by
  intro d
  induction d with
  | zero => intro _; exact ⟨rfl, rfl⟩
  | succ d ih =>
    intro hd
    have z := ph_oc_neg R (d := d) (by omega) hw (ph_l ln d) (Nat.le_refl _)
    obtain ⟨a, b⟩ := ih (by omega)
    refine ⟨(if_pos z).trans a, ?_⟩
    show ph_fr wd ln w d + ph_oc wd w (24 * d) (ph_l ln d) = 0
    omega
theorem i_vc_having {k : Nat} {u : SX} {v : SY} (I : i_Rel k u v) (hk : k + 4 ≤ 2048) (v1 : Int32) : wpX_having (fun r => wpY_having (fun r' => r' = r ∧ i_Rel (k + 4) u v) v v1) u v1 := by
  obtain ⟨n, wd, ln, q, np, tr, eb, rw, sk, pl, rfl, rfl, R⟩ := I
  unfold wpX_having
  dsimp only
  refine ⟨7, ph_hvX R ?_ 6 0 (by omega)⟩
  unfold wpY_having
  dsimp only
  by_cases z : v1 < 0
  · rw [(ph_hv_neg R z 6 (by omega)).1]
    refine ⟨1, ?_⟩
    rw [wY_having_4]
    exact br_f (by decide) (br_t z ⟨rfl, ph_mk R⟩)
  · refine ⟨145, ?_⟩
    have h := ph_hvY (w := v1) (f := nI n) (rw := rw) (sk := sk) (pl := pl) (post := fun r' => r' = ph_hv wd ln v1 6 ∧ i_Rel (k + 4) (nI n, nI (ph_c q n).1, nI (ph_c q n).2, wd, ln, q, np, tr, eb) (nI n, ln, wd, q, rw, sk, pl)) R z ⟨rfl, ph_mk R⟩ 144 0 0 (by omega) (by omega)
    rw [ph_ya_0] at h
    exact h
theorem i_vc_frequency {k : Nat} {u : SX} {v : SY} (I : i_Rel k u v) (hk : k + 4 ≤ 2048) (v1 : Int32) : wpX_frequency (fun r => wpY_frequency (fun r' => r' = r ∧ i_Rel (k + 4) u v) v v1) u v1 := by
  obtain ⟨n, wd, ln, q, np, tr, eb, rw, sk, pl, rfl, rfl, R⟩ := I
  unfold wpX_frequency
  dsimp only
  refine ⟨7, ph_frX R ?_ 6 0 (by omega)⟩
  unfold wpY_frequency
  dsimp only
  by_cases z : v1 < 0
  · rw [(ph_hv_neg R z 6 (by omega)).2]
    refine ⟨1, ?_⟩
    rw [wY_frequency_4]
    exact br_f (by decide) (br_t z ⟨rfl, ph_mk R⟩)
  · refine ⟨145, ?_⟩
    have h := ph_frY (w := v1) (f := nI n) (rw := rw) (sk := sk) (pl := pl) (post := fun r' => r' = nI (ph_fr wd ln v1 6) ∧ i_Rel (k + 4) (nI n, nI (ph_c q n).1, nI (ph_c q n).2, wd, ln, q, np, tr, eb) (nI n, ln, wd, q, rw, sk, pl)) R z ⟨rfl, ph_mk R⟩ 144 0 0 (by omega) (by omega)
    rw [Nat.zero_min] at h
    exact h
