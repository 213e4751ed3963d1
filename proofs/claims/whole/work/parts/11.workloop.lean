/-! ===== Y: the loop of work ===== -/
section
variable {post : SY → Prop} {J : Int32 → Int32 → (Nat → Int32) → (Nat → Int32) → (Nat → Int32) → (Nat → Int32) → (Nat → Int32) → (Nat → Int32) → Prop} {f x1 : Int32} {sz wd q rw sk pl : Nat → Int32} {n d i s t m p : Nat} {g sv : Nat → Int32}
theorem ph_w257 (hm : m ≤ 12) (hp : p ≤ m) (hi : i < 12) (H : J (nI (m - p + 1)) (nI i + (-1)) sz wd q rw (upd sk (m - p) (nI i)) pl) : wY_work_257 post J x1 (nI m) (nI i) (nI p) f sz wd q rw sk pl := by
  unfold wY_work_257 wY_work_271
  rw [pk_sub hp, nI_clamp (n := m - p) (by omega)]
  exact br_f (nI_nlt hp (by omega)) ⟨vp_in_nI (by omega) (by decide), nm_e (nm_r (nI_1 _) (nm_e H))⟩
theorem ph_w192 {z : Int32} (hi : i < 12) (hz : z = 0 ∨ z = 1) (H : wY_work_257 post J x1 (nI m) (nI i) (nI p) f sz wd q (upd rw (24 * i) z) sk pl) : wY_work_192 post J x1 (nI m) (nI i) (nI p) z f sz wd q rw sk pl := by
  unfold wY_work_192 wY_work_212
  rw [ph_i24 i, nI_clamp (n := 24 * i) (by omega)]
  rcases hz with rfl | rfl
  · exact br_t rfl ⟨vp_in_nI (by omega) (by decide), nm_e H⟩
  · exact br_f (by decide) ⟨vp_in_nI (by omega) (by decide), nm_e H⟩
theorem ph_w114 {one two z : Int32} {tk : Nat} (hs : s < 12) (ev : tk = 23 → ∀ b, b < 24 → rw (24 * s + b) = sv b) (h20 : 20 ≤ tk) (h23 : tk ≤ 23)
    (z20 : tk = 20 → z = if one = 0 then 0 else if two = 0 then 0 else 1) (z21 : tk = 21 → z = if one = 0 then (if two = 0 then 0 else 1) else 1)
    (z22 : tk = 22 → z = if one = 0 then 1 else 0) (z23 : tk = 23 → z = if ph_all sv 24 = 0 then 0 else 1)
    (H : wY_work_192 post J x1 (nI m) (nI i) (nI p) z f sz wd q rw sk pl) : wY_work_114 post J x1 (nI m) (nI i) (nI tk) (nI p) (nI s) one two f sz wd q rw sk pl := by
  unfold wY_work_114 wY_work_137 wY_work_158
  refine pk_eq tk 20 (fun h => ?_) (fun h => pk_eq tk 21 (fun h1 => ?_) (fun h1 => pk_eq tk 22 (fun h2 => ?_) (fun h2 => ?_)))
  · rw [z20 h] at H
    refine br_c (fun a => ?_) (fun a => br_c (fun b => ?_) (fun b => ?_))
    · rw [if_pos a] at H; exact H
    · rw [if_neg a, if_pos b] at H; exact H
    · rw [if_neg a, if_neg b] at H; exact H
  · rw [z21 h1] at H
    refine br_c (fun a => br_c (fun b => ?_) (fun b => ?_)) (fun a => ?_)
    · rw [if_pos a, if_pos b] at H; exact H
    · rw [if_pos a, if_neg b] at H; exact H
    · rw [if_neg a] at H; exact H
  · rw [z22 h2] at H
    refine br_c (fun a => ?_) (fun a => ?_)
    · rw [if_pos a] at H; exact H
    · rw [if_neg a] at H; exact H
  · rw [z23 (by omega)] at H
    exact ph_ys hs (ev (by omega)) H
theorem ph_w65c {z : Int32} {tk : Nat} (hi : i < 12) (hs : s < 12) (ht : t < 12) (ev : tk = 23 → ∀ b, b < 24 → rw (24 * s + b) = sv b) (h20 : 20 ≤ tk) (h23 : tk ≤ 23) (hz : z = 0 ∨ z = 1)
    (z20 : tk = 20 → z = if rw (24 * s) = 1 ∧ rw (24 * t) = 1 then 1 else 0) (z21 : tk = 21 → z = if rw (24 * s) = 1 ∨ rw (24 * t) = 1 then 1 else 0)
    (z22 : tk = 22 → z = if rw (24 * s) = 1 then 0 else 1) (z23 : tk = 23 → z = if ph_all sv 24 = 0 then 0 else 1)
    (H : wY_work_257 post J x1 (nI m) (nI i) (nI p) f sz wd q (upd rw (24 * i) z) sk pl) : wY_work_65 post J x1 (nI m) (nI i) (nI tk) (nI p) (nI s) (nI t) f sz wd q rw sk pl := by
  have A := ph_w192 hi hz H
  unfold wY_work_65 wY_work_93
  rw [ph_i24 s, ph_i24 t, nI_clamp (n := 24 * s) (by omega), nI_clamp (n := 24 * t) (by omega)]
  refine pk_lt tk 20 (fun z => absurd z (by omega)) (fun _ => ⟨vp_in_nI (by omega) (by decide), br_c (fun a => ⟨vp_in_nI (by omega) (by decide), br_c (fun b => ?_) (fun b => ?_)⟩) (fun a => ⟨vp_in_nI (by omega) (by decide), br_c (fun b => ?_) (fun b => ?_)⟩)⟩)
  · refine ph_w114 hs ev h20 h23 (fun e => ?_) (fun e => ?_) (fun e => ?_) z23 A
    · rw [z20 e, if_pos ⟨a, b⟩]; rfl
    · rw [z21 e, if_pos (Or.inl a)]; rfl
    · rw [z22 e, if_pos a]; rfl
  · refine ph_w114 hs ev h20 h23 (fun e => ?_) (fun e => ?_) (fun e => ?_) z23 A
    · rw [z20 e, if_neg (fun y => b y.2)]; rfl
    · rw [z21 e, if_pos (Or.inl a)]; rfl
    · rw [z22 e, if_pos a]; rfl
  · refine ph_w114 hs ev h20 h23 (fun e => ?_) (fun e => ?_) (fun e => ?_) z23 A
    · rw [z20 e, if_neg (fun y => a y.1)]; rfl
    · rw [z21 e, if_pos (Or.inr b)]; rfl
    · rw [z22 e, if_neg a]; rfl
  · refine ph_w114 hs ev h20 h23 (fun e => ?_) (fun e => ?_) (fun e => ?_) z23 A
    · rw [z20 e, if_neg (fun y => a y.1)]; rfl
    · rw [z21 e, if_neg (fun y => y.elim a b)]; rfl
    · rw [z22 e, if_neg a]; rfl
theorem ph_w219 {x4 x5 x6 x7 : Int32} (hi : i < 12) (hg : ∀ b, b < 24 → ∀ P : Int32 → Prop, P (g b) → wpY_spansAt P (f, sz, wd, q, ph_wr rw i g b, sk, pl) x4 x6 x7 x1 (nI b))
    (H : wY_work_257 post J x1 (nI m) (nI i) x5 f sz wd q (ph_wr rw i g 24) sk pl) :
    ∀ r b, b + r = 24 → wY_work_219 post J x1 (nI m) (nI i) x4 x5 x6 x7 f (r + 1) (nI b) sz wd q (ph_wr rw i g b) sk pl := by
  intro r
  induction r with
  | zero =>
    intro b hb
    have e : b = 24 := by omega
    subst e
    rw [wY_work_219]
    exact br_t (nI_le (a := 24) (b := 24) (by omega) (by decide)) H
  | succ r ih =>
    intro b hb
    have j := ih (b + 1) (by omega)
    rw [← ph_wr_s] at j
    rw [wY_work_219]
    dsimp only
    refine br_f (nI_ge (b := 24) (by omega) (by decide)) (hg b (by omega) _ ?_)
    rw [ph_iy i b, nI_clamp (n := 24 * i + b) (by omega)]
    exact ⟨vp_in_nI (by omega) (by decide), nm_e (nm_r (nI_1 b) j)⟩
theorem ph_w65s {x6 x7 : Int32} {tk : Nat} (hi : i < 12) (hk : tk < 20) (hg : ∀ b, b < 24 → ∀ P : Int32 → Prop, P (g b) → wpY_spansAt P (f, sz, wd, q, ph_wr rw i g b, sk, pl) (nI tk) x6 x7 x1 (nI b))
    (H : wY_work_257 post J x1 (nI m) (nI i) (nI p) f sz wd q (ph_wr rw i g 24) sk pl) : wY_work_65 post J x1 (nI m) (nI i) (nI tk) (nI p) x6 x7 f sz wd q rw sk pl := by
  unfold wY_work_65
  have h := ph_w219 (m := m) hi hg H 24 0 (by omega)
  rw [ph_wr_0] at h
  exact pk_lt tk 20 (fun _ => ⟨25, h⟩) (fun z => absurd z (by omega))
/-- the top two of the stack -/
theorem ph_w46 {tk : Nat} (hm : m ≤ 12) (hs1 : 1 ≤ m → sk (m - 1) = nI s) (hs0 : m = 0 → s = 0) (ht2 : 2 ≤ m → sk (m - 2) = nI t) (ht1 : m < 2 → t = 0)
    (H : wY_work_65 post J x1 (nI m) (nI i) (nI tk) (nI p) (nI s) (nI t) f sz wd q rw sk pl) :
    ((nI m < 1 → (wY_work_46 post J x1 (nI m) (nI i) (nI tk) (nI p) 0 f sz wd q rw sk pl)) ∧ (¬ nI m < 1 → (vp_in (nI m - 1) 13 ∧ (wY_work_46 post J x1 (nI m) (nI i) (nI tk) (nI p) (sk (nI m - 1).toNatClampNeg) f sz wd q rw sk pl)))) := by
  have E : wY_work_46 post J x1 (nI m) (nI i) (nI tk) (nI p) (nI s) f sz wd q rw sk pl := by
    unfold wY_work_46
    refine pk_lt m 2 (fun h => ?_) (fun h => ?_)
    · rw [ht1 h] at H; exact H
    · rw [show nI m - 2 = nI (m - 2) from pk_sub (b := 2) h, nI_clamp (n := m - 2) (by omega), ht2 h]
      exact ⟨vp_in_nI (by omega) (by decide), H⟩
  refine pk_lt m 1 (fun h => ?_) (fun h => ?_)
  · rw [hs0 (by omega)] at E; exact E
  · rw [show nI m - 1 = nI (m - 1) from pk_sub (b := 1) h, nI_clamp (n := m - 1) (by omega), hs1 h]
    exact ⟨vp_in_nI (by omega) (by decide), E⟩
end
theorem ph_m_le {q : Nat → Int32} {n : Nat} (c : (ph_c q n).1 + (ph_c q n).2 = 0) (ok : ∀ i, i < n → ph_ok q i) : ∀ r i, i + r = n → (ph_c q i).1 + (ph_c q i).2 ≤ r := by
  intro r
  induction r with
  | zero => intro i hi; have e : i = n := by omega
            subst e; omega
  | succ r ih => intro i hi
                 have := ph_kinds (ok i (by omega))
                 have := ih (i + 1) (by omega)
                 omega
theorem ph_w9 {post : SY → Prop} {wd ln q pl : Nat → Int32} {n d : Nat} (R : ph_R n wd ln q) (hd : d < 6) (C : (ph_c q n).1 + (ph_c q n).2 = 0)
    (H : ∀ rw sk, ph_YI wd (24 * d) (ph_l ln d) q n 0 rw sk → post (nI n, ln, wd, q, rw, sk, pl)) :
    ∀ i, i ≤ n → ∀ rw sk, ph_YI wd (24 * d) (ph_l ln d) q n i rw sk → wY_work_9 post (nI d) (nI n) (i + 1) (nI ((ph_c q i).1 + (ph_c q i).2)) (nI i + (-1)) ln wd q rw sk pl := by
  have hn := R.1
  intro i
  induction i with
  | zero =>
    intro _ rw sk X
    rw [wY_work_9]
    exact br_t (by decide) (H rw sk X)
  | succ i ih =>
    intro hi rw sk X
    have ok := R.2.1 i (by omega)
    have S := ph_SI_all (wd := wd) (o := 24 * d) (L := ph_l ln d) C R.2.1 (n - (i + 1)) (i + 1) (by omega)
    have W := ph_VI_all (wd := wd) (o := 24 * d) (L := ph_l ln d) C R.2.1 (n - (i + 1)) (i + 1) (by omega)
    have T := ph_ok_le ok
    have hh := ok.1
    have K := ph_kinds ok
    have B := ph_c_le q i
    have gi := fun b => ph_V_i (wd := wd) (o := 24 * d) (L := ph_l ln d) (q := q) (n := n) (i := i) (by omega) b
    rw [wY_work_9, pk_m1]
    dsimp only
    rw [nI_clamp (n := i) (by omega), hh]
    refine br_f (nI_pos (by omega)) ⟨vp_in_nI (by omega) (by decide), nm_e (ph_py (by omega) ?_)⟩
    have em : (ph_c q i).1 + (ph_c q i).2 = (ph_c q (i + 1)).1 + (ph_c q (i + 1)).2 - ph_par (ph_t q i) + 1 := by omega
    have pm : ph_par (ph_t q i) ≤ (ph_c q (i + 1)).1 + (ph_c q (i + 1)).2 := by omega
    have m12 : (ph_c q (i + 1)).1 + (ph_c q (i + 1)).2 ≤ 12 := by have := ph_m_le C R.2.1 (n - (i + 1)) (i + 1) (by omega); omega
    obtain ⟨h1, h2, h3, h4⟩ := S
    have X' := X
    obtain ⟨x1, x2, x3⟩ := X
    -- the two top parts
    obtain ⟨s, hs1, hs0, s12, sS⟩ : ∃ s, (1 ≤ (ph_c q (i + 1)).1 + (ph_c q (i + 1)).2 → sk ((ph_c q (i + 1)).1 + (ph_c q (i + 1)).2 - 1) = nI s) ∧ ((ph_c q (i + 1)).1 + (ph_c q (i + 1)).2 = 0 → s = 0) ∧ s < 12 ∧ (1 ≤ (ph_c q (i + 1)).1 + (ph_c q (i + 1)).2 → s = ph_S wd (24 * d) (ph_l ln d) q n (i + 1) 0) := by
      by_cases z : 1 ≤ (ph_c q (i + 1)).1 + (ph_c q (i + 1)).2
      · have e := x1 0 (by omega)
        rw [Nat.sub_zero] at e
        refine ⟨ph_S wd (24 * d) (ph_l ln d) q n (i + 1) 0, fun _ => e, fun y => by omega, ?_, fun _ => rfl⟩
        by_cases y : 0 < (ph_c q (i + 1)).1
        · have := (h3 0 y).1; omega
        · have := (h4 0 (by omega) (by omega)).1; omega
      · exact ⟨0, fun y => absurd y z, fun _ => rfl, by omega, fun y => absurd y z⟩
    obtain ⟨t, ht2, ht1, t12, tS⟩ : ∃ t, (2 ≤ (ph_c q (i + 1)).1 + (ph_c q (i + 1)).2 → sk ((ph_c q (i + 1)).1 + (ph_c q (i + 1)).2 - 2) = nI t) ∧ ((ph_c q (i + 1)).1 + (ph_c q (i + 1)).2 < 2 → t = 0) ∧ t < 12 ∧ (2 ≤ (ph_c q (i + 1)).1 + (ph_c q (i + 1)).2 → t = ph_S wd (24 * d) (ph_l ln d) q n (i + 1) 1) := by
      by_cases z : 2 ≤ (ph_c q (i + 1)).1 + (ph_c q (i + 1)).2
      · have e := x1 1 (by omega)
        rw [Nat.sub_sub] at e
        refine ⟨ph_S wd (24 * d) (ph_l ln d) q n (i + 1) 1, fun _ => e, fun y => by omega, ?_, fun _ => rfl⟩
        by_cases y : 1 < (ph_c q (i + 1)).1
        · have := (h3 1 y).1; omega
        · have := (h4 1 (by omega) (by omega)).1; omega
      · exact ⟨0, fun y => absurd y z, fun _ => rfl, by omega, fun y => absurd y z⟩
    refine ph_w46 m12 hs1 hs0 ht2 ht1 ?_
    by_cases v : ph_t q i ≤ 18
    · have Y := ph_YI_sp (by omega) ok X' v
      refine ph_w65s (g := ph_V wd (24 * d) (ph_l ln d) q n i i) (by omega) (by omega) (fun b hb P hP => ?_) (ph_w257 m12 pm (by omega) (by rw [← em]; exact ih (by omega) _ _ Y))
      rw [gi b] at hP
      by_cases w : ph_t q i ≤ 11
      · rw [ph_row_w w, hh] at hP
        exact ph_spw R hd hb w hP
      · have c2 : 2 ≤ (ph_c q (i + 1)).1 := by omega
        obtain ⟨s1, s2⟩ := h3 0 (by omega)
        obtain ⟨t1, t2⟩ := h3 1 (by omega)
        have sv := x2 _ (h2 0).1 s1 s2
        have tv := x2 _ (h2 1).1 t1 t2
        have tl := (W _ (h2 1).1 t1).1 t2
        have s0 := (h2 0).1
        have t0 := (h2 1).1
        rw [← sS (by omega)] at sv s0 hP
        rw [← tS (by omega)] at tv tl t0 hP
        have tv' : ∀ c, c < 24 → ph_wr rw i (ph_V wd (24 * d) (ph_l ln d) q n i i) b (24 * t + c) = ph_V wd (24 * d) (ph_l ln d) q n (i + 1) t c := fun c hc => by
          rw [ph_wr_o (by omega) (by omega) hc]; exact tv c hc
        have sv' : ph_wr rw i (ph_V wd (24 * d) (ph_l ln d) q n i i) b (24 * s + b) = ph_V wd (24 * d) (ph_l ln d) q n (i + 1) s b := by
          rw [ph_wr_o (by omega) (by omega) hb]; exact sv b hb
        by_cases a : ph_t q i = 12
        · rw [ph_row_o a, ← sv', ← tv' b hb] at hP
          rw [a]
          exact ph_sp12 hb s12 t12 hP
        · by_cases e : ph_t q i = 18
          · rw [ph_row_i e, ← sv'] at hP
            rw [e]
            exact ph_sp18 hb s12 t12 tv' tl hP
          · rw [ph_row_t (by omega) (by omega), ← sv'] at hP
            exact ph_spt hb s12 t12 (by omega) (by omega) tv' hP
    · have v2 : 20 ≤ ph_t q i := by have := ok.2; omega
      have Y := ph_YI_co (by omega) ok X' v2
      have z01 : ph_V wd (24 * d) (ph_l ln d) q n i i 0 = 0 ∨ ph_V wd (24 * d) (ph_l ln d) q n i i 0 = 1 := by rw [gi 0]; exact ph_row_01 v2
      refine ph_w65c (sv := ph_V wd (24 * d) (ph_l ln d) q n (i + 1) s) (z := ph_V wd (24 * d) (ph_l ln d) q n i i 0) (by omega) s12 t12 (fun e b hb => ?_) v2 T z01 (fun e => ?_) (fun e => ?_) (fun e => ?_) (fun e => ?_) (ph_w257 m12 pm (by omega) (by rw [← em]; exact ih (by omega) _ _ Y))
      · obtain ⟨s1, s2⟩ := h3 0 (by omega)
        have sv := x2 _ (h2 0).1 s1 s2
        rw [← sS (by omega)] at sv
        exact sv b hb
      · obtain ⟨s1, s2⟩ := h4 0 (by omega) (by omega)
        obtain ⟨t1, t2⟩ := h4 1 (by omega) (by omega)
        have sv := x3 _ (h2 0).1 s1 s2
        have tv := x3 _ (h2 1).1 t1 t2
        rw [gi 0, ph_row_20 e, ← sv, ← tv, ← sS (by omega), ← tS (by omega)]
      · obtain ⟨s1, s2⟩ := h4 0 (by omega) (by omega)
        obtain ⟨t1, t2⟩ := h4 1 (by omega) (by omega)
        have sv := x3 _ (h2 0).1 s1 s2
        have tv := x3 _ (h2 1).1 t1 t2
        rw [gi 0, ph_row_21 e, ← sv, ← tv, ← sS (by omega), ← tS (by omega)]
      · obtain ⟨s1, s2⟩ := h4 0 (by omega) (by omega)
        have sv := x3 _ (h2 0).1 s1 s2
        rw [gi 0, ph_row_22 e, ← sv, ← sS (by omega)]
      · rw [gi 0, ph_row_23 e, ← sS (by omega)]
theorem ph_wY {post : SY → Prop} {wd ln q rw sk pl : Nat → Int32} {n d : Nat} (R : ph_R n wd ln q) (hd : d < 6) (C : (ph_c q n).1 + (ph_c q n).2 = 0)
    (H : ∀ rw sk, ph_YI wd (24 * d) (ph_l ln d) q n 0 rw sk → post (nI n, ln, wd, q, rw, sk, pl)) :
    wpY_work post (nI n, ln, wd, q, rw, sk, pl) (nI d) := by
  unfold wpY_work
  dsimp only
  refine nm_r (e' := nI n + (-1)) (by rw [Int32.sub_eq_add_neg]) ⟨n + 1, ?_⟩
  have h := ph_w9 R hd C H n (Nat.le_refl n) rw sk ⟨fun j hj => by omega, fun j hj hj2 => by omega, fun j hj hj2 => by omega⟩
  rw [C] at h
  exact h
