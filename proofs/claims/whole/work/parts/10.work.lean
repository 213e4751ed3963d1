/-! ===== Y: then, within, spansAt, some, work ===== -/
theorem ph_i24 (s : Nat) : 24 * nI s = nI (24 * s) := by
  rw [show (24 : Int32) = nI 24 from rfl, pk_mul]
section
variable {f : Int32} {sz wd q rw sk pl : Nat → Int32} {n d i s t k : Nat} {g sv tv : Nat → Int32}
theorem ph_yt6 {p : Int32 → Prop} {x : Int32} (ht : t < 12) (hk : k ≤ 4) (ev : ∀ c, c < 24 → rw (24 * t + c) = tv c) (H : p (ph_then x tv k (24 - k))) :
    ∀ r e, e + r = 24 - k → wY_then_6 p x (nI t) (nI k) f sz wd q rw sk pl (r + 1) (ph_then x tv k e) (nI e) := by
  intro r
  induction r with
  | zero =>
    intro e he
    have e' : e = 24 - k := by omega
    rw [wY_then_6]
    dsimp only
    rw [nI_add e k]
    refine pk_le 24 (e + k) (fun _ => ?_) (fun z => absurd z (by omega))
    rw [e']; exact H
  | succ r ih =>
    intro e he
    have j := ih (e + 1) (by omega)
    rw [wY_then_6]
    dsimp only
    rw [nI_add e k, ph_iy t e, nI_add (24 * t + e) k, nI_clamp (n := 24 * t + e + k) (by omega), show 24 * t + e + k = 24 * t + (e + k) by omega, ev (e + k) (by omega)]
    refine pk_le 24 (e + k) (fun z => absurd z (by omega)) (fun _ => br_c (fun z => ⟨vp_in_nI (by omega) (by decide), ?_⟩) (fun z => ?_))
    · rw [show ph_then x tv k (e + 1) = ph_then x tv k e ||| tv (e + k) from if_pos z] at j
      exact nm_e (nm_r (nI_1 e) j)
    · rw [show ph_then x tv k (e + 1) = ph_then x tv k e from if_neg z] at j
      exact nm_r (nI_1 e) j
theorem ph_yt {p : Int32 → Prop} {x : Int32} (ht : t < 12) (hk : k ≤ 4) (ev : ∀ c, c < 24 → rw (24 * t + c) = tv c) (H : p (ph_then x tv k (24 - k))) :
    wpY_then p (f, sz, wd, q, rw, sk, pl) x (nI t) (nI k) := by
  unfold wpY_then
  dsimp only
  exact ⟨24 - k + 1, ph_yt6 ht hk ev H (24 - k) 0 (by omega)⟩
theorem ph_yi14 {p : Int32 → Prop} {J : Int32 → Int32 → Prop} {b c : Nat} {acc x : Int32} (ht : t < 12) (hc : c < 24) (ev : rw (24 * t + c) = x) (H : J (ph_yin x acc 24) (nI (c + 1))) :
    ∀ r m, m + r = 24 → wY_within_14 p J (nI b) (nI t) (nI c) f sz wd q rw sk pl (r + 1) (ph_yin x acc m) (nI m) := by
  intro r
  induction r with
  | zero =>
    intro m hm
    have e : m = 24 := by omega
    subst e
    rw [wY_within_14]
    exact br_t (nI_le (a := 24) (b := 24) (by omega) (by decide)) (nm_r (nI_1 c) H)
  | succ r ih =>
    intro m hm
    have j := ih (m + 1) (by omega)
    rw [wY_within_14]
    dsimp only
    rw [ph_iy t c, nI_clamp (n := 24 * t + c) (by omega), ev]
    refine br_f (nI_ge (b := 24) (by omega) (by decide)) ⟨vp_in_nI (by omega) (by decide), br_c (fun z => ?_) (fun z => ?_)⟩
    · rw [show ph_yin x acc (m + 1) = ph_yin x acc m ||| (((2 : Int32) <<< (nI m &&& 31)) - 1) from if_pos z] at j
      exact nm_e (nm_r (nI_1 m) j)
    · rw [show ph_yin x acc (m + 1) = ph_yin x acc m from if_neg z] at j
      exact nm_r (nI_1 m) j
theorem ph_yi5 {p : Int32 → Prop} {b : Nat} (ht : t < 12) (hb : b < 24) (ev : ∀ c, c < 24 → rw (24 * t + c) = tv c) (H : p (ph_yw tv (b + 1))) :
    ∀ r c, c + r = b + 1 → wY_within_5 p (nI b) (nI t) f sz wd q rw sk pl (r + 1) (ph_yw tv c) (nI c) := by
  intro r
  induction r with
  | zero =>
    intro c hc
    have e : c = b + 1 := by omega
    subst e
    rw [wY_within_5]
    exact br_t (nI_lt (by omega) (by omega)) H
  | succ r ih =>
    intro c hc
    have j := ih (c + 1) (by omega)
    rw [wY_within_5]
    dsimp only
    refine br_f (nI_nlt (by omega) (by omega)) ⟨25, ?_⟩
    exact ph_yi14 ht (by omega) (ev c (by omega)) j 24 0 (by omega)
theorem ph_yi {p : Int32 → Prop} {b : Nat} (ht : t < 12) (hb : b < 24) (ev : ∀ c, c < 24 → rw (24 * t + c) = tv c) (lo : ∀ c, c < 24 → ph_lo (tv c)) (H : p (ph_reach tv (b + 1))) :
    wpY_within p (f, sz, wd, q, rw, sk, pl) (nI b) (nI t) := by
  rw [← ph_yw_reach tv (b + 1) (fun c hc => lo c (by omega))] at H
  unfold wpY_within
  dsimp only
  exact ⟨b + 1 + 1, ph_yi5 ht hb ev H (b + 1) 0 (by omega)⟩
theorem ph_ys4 {p : Int32 → Prop} (hs : s < 12) (ev : ∀ b, b < 24 → rw (24 * s + b) = sv b) (H : p (if ph_all sv 24 = 0 then 0 else 1)) :
    ∀ r b, b + r = 24 → wY_some_4 p (nI s) f sz wd q rw sk pl (r + 1) (ph_all sv b) (nI b) := by
  intro r
  induction r with
  | zero =>
    intro b hb
    have e : b = 24 := by omega
    subst e
    rw [wY_some_4]
    refine br_t (nI_le (a := 24) (b := 24) (by omega) (by decide)) (br_c (fun z => ?_) (fun z => ?_))
    · rw [if_pos z] at H; exact H
    · rw [if_neg z] at H; exact H
  | succ r ih =>
    intro b hb
    have j := ih (b + 1) (by omega)
    rw [wY_some_4]
    dsimp only
    rw [ph_iy s b, nI_clamp (n := 24 * s + b) (by omega), ev b (by omega)]
    exact br_f (nI_ge (b := 24) (by omega) (by decide)) ⟨vp_in_nI (by omega) (by decide), nm_e (nm_r (nI_1 b) j)⟩
theorem ph_ys {p : Int32 → Prop} (hs : s < 12) (ev : ∀ b, b < 24 → rw (24 * s + b) = sv b) (H : p (if ph_all sv 24 = 0 then 0 else 1)) :
    wpY_some p (f, sz, wd, q, rw, sk, pl) (nI s) := by
  unfold wpY_some
  dsimp only
  exact ⟨25, ph_ys4 hs ev H 24 0 (by omega)⟩
/-- a word's place -/
theorem ph_spw {p : Int32 → Prop} {b tk : Nat} {s t : Int32} (R : ph_R n wd sz q) (hd : d < 6) (hb : b < 24) (hk : tk ≤ 11) (H : p (ph_wrow wd (24 * d) (ph_l sz d) (nI tk) b)) :
    wpY_spansAt p (f, sz, wd, q, rw, sk, pl) (nI tk) s t (nI d) (nI b) := by
  obtain ⟨hl, el, _⟩ := ph_R_l R hd
  unfold wpY_spansAt
  dsimp only
  refine pk_lt 11 tk (fun z => absurd z (by omega)) (fun _ => ⟨vp_in_nI hd (by decide), ?_⟩)
  rw [nI_clamp (n := d) (by omega), el, ph_iy d b, nI_clamp (n := 24 * d + b) (by omega)]
  refine pk_le (ph_l sz d) b (fun z => ?_) (fun z => ⟨vp_in_nI (by omega) (by decide), br_c (fun y => ?_) (fun y => ?_)⟩)
  · rw [show ph_wrow wd (24 * d) (ph_l sz d) (nI tk) b = 0 from if_neg (fun y => by omega)] at H
    exact H
  · rw [show ph_wrow wd (24 * d) (ph_l sz d) (nI tk) b = (1 : Int32) <<< (nI b &&& 31) from if_pos ⟨z, y⟩] at H
    exact H
  · rw [show ph_wrow wd (24 * d) (ph_l sz d) (nI tk) b = 0 from if_neg (fun x => y x.2)] at H
    exact H
theorem ph_sp12 {p : Int32 → Prop} {b : Nat} {d : Int32} (hb : b < 24) (hs : s < 12) (ht : t < 12) (H : p (rw (24 * s + b) ||| rw (24 * t + b))) :
    wpY_spansAt p (f, sz, wd, q, rw, sk, pl) (nI 12) (nI s) (nI t) d (nI b) := by
  unfold wpY_spansAt
  dsimp only
  rw [ph_iy s b, ph_iy t b, nI_clamp (n := 24 * s + b) (by omega), nI_clamp (n := 24 * t + b) (by omega)]
  exact br_t (by decide) ⟨vp_in_nI (by omega) (by decide), nm_e (br_t rfl ⟨vp_in_nI (by omega) (by decide), H⟩)⟩
theorem ph_sp18 {p : Int32 → Prop} {b : Nat} {d : Int32} (hb : b < 24) (hs : s < 12) (ht : t < 12) (ev : ∀ c, c < 24 → rw (24 * t + c) = tv c) (lo : ∀ c, c < 24 → ph_lo (tv c)) (H : p (rw (24 * s + b) &&& ph_reach tv (b + 1))) :
    wpY_spansAt p (f, sz, wd, q, rw, sk, pl) (nI 18) (nI s) (nI t) d (nI b) := by
  unfold wpY_spansAt
  dsimp only
  rw [ph_iy s b, nI_clamp (n := 24 * s + b) (by omega)]
  exact br_t (by decide) ⟨vp_in_nI (by omega) (by decide), nm_e (br_f (by decide) (br_t rfl (ph_yi ht hb ev lo H)))⟩
theorem ph_spt {p : Int32 → Prop} {b tk : Nat} {d : Int32} (hb : b < 24) (hs : s < 12) (ht : t < 12) (h1 : 13 ≤ tk) (h2 : tk ≤ 17) (ev : ∀ c, c < 24 → rw (24 * t + c) = tv c) (H : p (ph_then (rw (24 * s + b)) tv (tk - 13) (24 - (tk - 13)))) :
    wpY_spansAt p (f, sz, wd, q, rw, sk, pl) (nI tk) (nI s) (nI t) d (nI b) := by
  unfold wpY_spansAt
  dsimp only
  rw [ph_iy s b, nI_clamp (n := 24 * s + b) (by omega), show nI tk - 13 = nI (tk - 13) from pk_sub (b := 13) h1]
  refine pk_lt 11 tk (fun _ => ⟨vp_in_nI (by omega) (by decide), nm_e (pk_eq tk 12 (fun z => absurd z (by omega)) (fun _ => pk_eq tk 18 (fun z => absurd z (by omega)) (fun _ => ?_)))⟩) (fun z => absurd z (by omega))
  exact ph_yt ht (by omega) ev H
end
def ph_YI (wd : Nat → Int32) (o L : Nat) (q : Nat → Int32) (n i : Nat) (rw sk : Nat → Int32) : Prop :=
  (∀ j, j < (ph_c q i).1 + (ph_c q i).2 → sk ((ph_c q i).1 + (ph_c q i).2 - 1 - j) = nI (ph_S wd o L q n i j)) ∧
  (∀ j, i ≤ j → j < n → ph_t q j ≤ 18 → ∀ b, b < 24 → rw (24 * j + b) = ph_V wd o L q n i j b) ∧
  (∀ j, i ≤ j → j < n → 20 ≤ ph_t q j → rw (24 * j) = ph_V wd o L q n i j 0)
section
variable {wd q rw sk : Nat → Int32} {o L n i : Nat}
theorem ph_YI_sk (h : i < n) (ok : ph_ok q i)
    (c : ∀ j, j < (ph_c q (i + 1)).1 + (ph_c q (i + 1)).2 → sk ((ph_c q (i + 1)).1 + (ph_c q (i + 1)).2 - 1 - j) = nI (ph_S wd o L q n (i + 1) j)) :
    ∀ j, j < (ph_c q i).1 + (ph_c q i).2 → upd sk ((ph_c q (i + 1)).1 + (ph_c q (i + 1)).2 - ph_par (ph_t q i)) (nI i) ((ph_c q i).1 + (ph_c q i).2 - 1 - j) = nI (ph_S wd o L q n i j) := by
  intro j hj
  have K := ph_kinds ok
  rw [ph_S_s h]
  generalize ph_S wd o L q n (i + 1) = st at *
  generalize ph_par (ph_t q i) = p at *
  generalize ph_c q (i + 1) = c' at *
  generalize ph_c q i = c'' at *
  cases j with
  | zero =>
    rw [show c''.1 + c''.2 - 1 - 0 = c'.1 + c'.2 - p by omega, pk_us]
    rfl
  | succ j =>
    rw [ph_push_s, pk_un (by omega), ← c (j + p) (by omega), show c''.1 + c''.2 - 1 - (j + 1) = c'.1 + c'.2 - 1 - (j + p) by omega]
theorem ph_YI_sp (h : i < n) (ok : ph_ok q i) (X : ph_YI wd o L q n (i + 1) rw sk) (ht : ph_t q i ≤ 18) :
    ph_YI wd o L q n i (ph_wr rw i (ph_V wd o L q n i i) 24) (upd sk ((ph_c q (i + 1)).1 + (ph_c q (i + 1)).2 - ph_par (ph_t q i)) (nI i)) := by
  obtain ⟨x1, x2, x3⟩ := X
  refine ⟨ph_YI_sk h ok x1, fun j hj hj2 hj3 b hb => ?_, fun j hj hj2 hj3 => ?_⟩
  · by_cases z : j = i
    · subst z; exact ph_wr_i hb
    · rw [ph_wr_o (by omega) z hb, ph_V_j h z]; exact x2 j (by omega) hj2 hj3 b hb
  · by_cases z : j = i
    · subst z; omega
    · rw [ph_V_j h z, ← x3 j (by omega) hj2 hj3]
      exact ph_wr_o (b := 0) (by omega) z (by omega)
theorem ph_YI_co (h : i < n) (ok : ph_ok q i) (X : ph_YI wd o L q n (i + 1) rw sk) (ht : 20 ≤ ph_t q i) :
    ph_YI wd o L q n i (upd rw (24 * i) (ph_V wd o L q n i i 0)) (upd sk ((ph_c q (i + 1)).1 + (ph_c q (i + 1)).2 - ph_par (ph_t q i)) (nI i)) := by
  obtain ⟨x1, x2, x3⟩ := X
  refine ⟨ph_YI_sk h ok x1, fun j hj hj2 hj3 b hb => ?_, fun j hj hj2 hj3 => ?_⟩
  · by_cases z : j = i
    · subst z; omega
    · rw [ph_V_j h z, pk_un (by omega)]; exact x2 j (by omega) hj2 hj3 b hb
  · by_cases z : j = i
    · subst z; exact pk_us
    · rw [pk_un (by omega), ph_V_j h z]; exact x3 j (by omega) hj2 hj3
end
