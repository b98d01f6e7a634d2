/-! ===== repeat ===== -/
theorem ta_rpi {s k : Nat} {x : Int32} (bs : s ≤ 64) (hk : k ≤ 32) (h1 : ¬ x < -64) (h2 : x ≤ 64) : (nI s + nI k * x).toInt = (s : Int) + k * x.toInt ∧ -2048 ≤ (k : Int) * x.toInt ∧ (k : Int) * x.toInt ≤ 2048 := by
  have y1 : -64 ≤ x.toInt := by
    rw [Int32.lt_iff_toInt_lt, show (-64 : Int32).toInt = -64 from by decide] at h1
    omega
  have y2 : x.toInt ≤ 64 := by
    rw [Int32.le_iff_toInt_le, show (64 : Int32).toInt = 64 from by decide] at h2
    exact h2
  have b1 : (k : Int) * x.toInt ≤ (k : Int) * 64 := Int.mul_le_mul_of_nonneg_left y2 (by omega)
  have b2 : (k : Int) * (-64) ≤ (k : Int) * x.toInt := Int.mul_le_mul_of_nonneg_left y1 (by omega)
  have e1 : (nI k * x).toInt = (k : Int) * x.toInt := by
    rw [Int32.toInt_mul, nI_toInt (by omega)]
    exact Int.bmod_eq_of_le (by omega) (by omega)
  refine ⟨?_, by omega, by omega⟩
  rw [Int32.toInt_add, e1, nI_toInt (by omega)]
  exact Int.bmod_eq_of_le (by omega) (by omega)
theorem ta_rpv {s e k : Nat} {x : Int32} (hse : s < e) (be : e ≤ 64) (hk : k ≤ 32) (h1 : ¬ x < -64) (h2 : x ≤ 64) (z : ¬ nI s + nI k * x < 0) (w : ¬ 64 < nI e + nI k * x) : ∃ s1 e1 : Nat, s1 < e1 ∧ e1 ≤ 64 ∧ nI s + nI k * x = nI s1 ∧ nI e + nI k * x = nI e1 := by
  obtain ⟨p1, p2, p3⟩ := ta_rpi (s := s) (by omega) hk h1 h2
  obtain ⟨q1, _, _⟩ := ta_rpi (s := e) be hk h1 h2
  rw [Int32.lt_iff_toInt_lt, p1, show (0 : Int32).toInt = 0 from by decide] at z
  rw [Int32.lt_iff_toInt_lt, q1, show (64 : Int32).toInt = 64 from by decide] at w
  generalize (k : Int) * x.toInt = y at *
  refine ⟨((s : Int) + y).toNat, ((e : Int) + y).toNat, by omega, by omega, ?_, ?_⟩
  · apply Int32.toInt_inj.mp
    rw [p1, nI_toInt (by omega)]
    omega
  · apply Int32.toInt_inj.mp
    rw [q1, nI_toInt (by omega)]
    omega
theorem ta_rpl {t s e N : Nat} {x y : Int32} (ht : t < 3) (hse : s < e) (be : e ≤ 64) (hq : x / 65 = nI s) (hr : x - x / 65 * 65 = nI e) (h1 : ¬ y < -64) (h2 : y ≤ 64) (hN : N ≤ 32) : ∀ (d k m : Nat) (F G : Nat → Nat), k + d = N → ∃ (m' : Nat) (F' G' : Nat → Nat),
    (∀ (a b c : Nat → Int32) (post : Int32 → SX → Prop), ta_T a b c t m F G → (∀ a' b' c' : Nat → Int32, ta_F a b c a' b' c' t → ta_T a' b' c' t m' F' G' → post (nI m') (a', b', c')) → wX_repeat_53 post (nI t) x y (nI N) (d + 1) (nI k) a b c) ∧
    (∀ (a b c mk : Nat → Int32) (post : Int32 → SY → Prop), ta_T a b c t m F G → (∀ a' b' c' : Nat → Int32, ta_F a b c a' b' c' t → ta_T a' b' c' t m' F' G' → post (nI m') (a', b', c', mk)) → wY_repeat_55 post (nI t) x y (nI N) (d + 1) (nI k) a b c mk)
  | 0, k, m, F, G, hd => by
    obtain rfl : k = N := by omega
    refine ⟨m, F, G, fun a b c post hT H => pk_le k k (fun _ => ⟨pk_in t 3 ht, ?_⟩) (fun z => absurd z (by omega)), fun a b c mk post hT H => pk_le k k (fun _ => ⟨pk_in t 3 ht, ?_⟩) (fun z => absurd z (by omega))⟩
    · rw [ta_c hT ht]
      exact H a b c ta_Fr hT
    · rw [ta_c hT ht]
      exact H a b c ta_Fr hT
  | d + 1, k, m, F, G, hd => by
    have e6 : x / 65 + nI k * y = nI s + nI k * y := by rw [hq]
    have e7 : x - x / 65 * 65 + nI k * y = nI e + nI k * y := by rw [hr]
    by_cases z : nI s + nI k * y < 0
    · obtain ⟨m', F', G', gX, gY⟩ := ta_rpl ht hse be hq hr h1 h2 hN d (k + 1) m F G (by omega)
      exact ⟨m', F', G', fun a b c post hT H => pk_le N k (fun w => absurd w (by omega)) (fun _ => ⟨ta_65, nm_r e6 ⟨ta_65, nm_r e7 (br_t z (nm_r (nI_1 k) (gX a b c post hT H)))⟩⟩),
        fun a b c mk post hT H => pk_le N k (fun w => absurd w (by omega)) (fun _ => ⟨ta_65, nm_r e6 ⟨ta_65, nm_r e7 (br_t z (nm_r (nI_1 k) (gY a b c mk post hT H)))⟩⟩)⟩
    · by_cases w : 64 < nI e + nI k * y
      · obtain ⟨m', F', G', gX, gY⟩ := ta_rpl ht hse be hq hr h1 h2 hN d (k + 1) m F G (by omega)
        exact ⟨m', F', G', fun a b c post hT H => pk_le N k (fun w => absurd w (by omega)) (fun _ => ⟨ta_65, nm_r e6 ⟨ta_65, nm_r e7 (br_f z (br_t w (nm_r (nI_1 k) (gX a b c post hT H))))⟩⟩),
          fun a b c mk post hT H => pk_le N k (fun w => absurd w (by omega)) (fun _ => ⟨ta_65, nm_r e6 ⟨ta_65, nm_r e7 (br_f z (br_t w (nm_r (nI_1 k) (gY a b c mk post hT H))))⟩⟩)⟩
      · by_cases y3 : 32 ≤ m
        · obtain ⟨m', F', G', gX, gY⟩ := ta_rpl ht hse be hq hr h1 h2 hN d (k + 1) m F G (by omega)
          refine ⟨m', F', G', fun a b c post hT H => ?_, fun a b c mk post hT H => ?_⟩
          · have hm := hT.2.1
            exact pk_le N k (fun w => absurd w (by omega)) (fun _ => ⟨ta_65, nm_r e6 ⟨ta_65, nm_r e7 (br_f z (br_f w ⟨pk_in t 3 ht, pk_le 32 m (fun _ => nm_r (nI_1 k) (gX a b c post hT H)) (fun q => absurd q (by omega)) rfl (ta_c hT ht)⟩))⟩⟩)
          · have hm := hT.2.1
            exact pk_le N k (fun w => absurd w (by omega)) (fun _ => ⟨ta_65, nm_r e6 ⟨ta_65, nm_r e7 (br_f z (br_f w ⟨pk_in t 3 ht, pk_le 32 m (fun _ => nm_r (nI_1 k) (gY a b c mk post hT H)) (fun q => absurd q (by omega)) rfl (ta_c hT ht)⟩))⟩⟩)
        · obtain ⟨s1, e1, b1, b2, f1, f2⟩ := ta_rpv hse be (by omega) h1 h2 z w
          obtain ⟨m', F', G', gX, gY⟩ := ta_rpl ht hse be hq hr h1 h2 hN d (k + 1) (m + 1) (ta_in F (ta_ps F G s1 e1 m) s1) (ta_in G (ta_ps F G s1 e1 m) e1) (by omega)
          refine ⟨m', F', G', fun a b c post hT H => ?_, fun a b c mk post hT H => ?_⟩
          · refine pk_le N k (fun w => absurd w (by omega)) (fun _ => ⟨ta_65, nm_r e6 ⟨ta_65, nm_r e7 (br_f z (br_f w ⟨pk_in t 3 ht, pk_le 32 m (fun q => absurd q (by omega)) (fun _ => ?_) rfl (ta_c hT ht)⟩))⟩⟩)
            rw [f1, f2]
            exact ta_xi hT ht (by omega) b1 b2 (fun a' b' c' x1 x2 => nm_r (nI_1 k) (gX a' b' c' post x2 (fun a2 b2 c2 x3 x4 => H a2 b2 c2 (ta_Ft x1 x3) x4)))
          · refine pk_le N k (fun w => absurd w (by omega)) (fun _ => ⟨ta_65, nm_r e6 ⟨ta_65, nm_r e7 (br_f z (br_f w ⟨pk_in t 3 ht, pk_le 32 m (fun q => absurd q (by omega)) (fun _ => ?_) rfl (ta_c hT ht)⟩))⟩⟩)
            rw [f1, f2]
            exact ta_yi hT ht (by omega) b1 b2 (fun a' b' c' x1 x2 => nm_r (nI_1 k) (gY a' b' c' mk post x2 (fun a2 b2 c2 x3 x4 => H a2 b2 c2 (ta_Ft x1 x3) x4)))
theorem i_vc_repeat {k : Nat} {u : SX} {v : SY} (I : i_Rel k u v) (hk : k + 5 ≤ 2560) (v1 : Int32) (v2 : Int32) (v3 : Int32) (v4 : Int32) : wpX_repeat (fun r u' => wpY_repeat (fun r' v' => r' = r ∧ i_Rel (k + 5) u' v') v v1 v2 v3 v4) u v1 v2 v3 v4 := by
  obtain ⟨a, b, c⟩ := u
  obtain ⟨f, g, h, mk⟩ := v
  unfold wpX_repeat wpY_repeat
  dsimp only
  rcases ta_trk v1 with ⟨hx, hy⟩ | ⟨t, ht, rfl, hx, hy⟩
  · exact hx _ (br_t rfl (hy _ _ (br_f ta_10 ⟨rfl, i_up I⟩)))
  · obtain ⟨m, F, G, hX, hY⟩ := ta_I I ht
    rcases ta_str v2 with ⟨kx, ky⟩ | ⟨s, e, hse, be, hq, hr, kx, ky⟩
    · exact hx _ (br_f ta_10 (kx _ (br_t rfl (hy _ _ (br_t rfl (ky _ _ (br_f ta_10 ⟨rfl, i_up I⟩)))))))
    · refine hx _ (br_f ta_10 (kx _ (br_f ta_10 ?_)))
      by_cases h1 : v3 < -64
      · exact br_t h1 (hy _ _ (br_t rfl (ky _ _ (br_t rfl (br_t h1 ⟨rfl, i_up I⟩)))))
      · by_cases h2 : v3 ≤ 64
        · by_cases h3 : v4 < 1
          · exact br_f h1 (br_t h2 (br_t h3 (hy _ _ (br_t rfl (ky _ _ (br_t rfl (br_f h1 (br_t h2 (br_t h3 ⟨rfl, i_up I⟩)))))))))
          · by_cases h4 : v4 ≤ 32
            · have h0 : ¬ v4 < 0 := fun z => h3 (Int32.lt_trans z (by decide))
              obtain ⟨N, hN, rfl⟩ := nI_of2 (n := 32) (by decide) h0 h4
              obtain ⟨m', F', G', gX, gY⟩ := ta_rpl ht hse be hq hr h1 h2 hN N 0 m F G (by omega)
              refine br_f h1 (br_t h2 (br_f h3 (br_t h4 ⟨N + 1, gX a b c _ hX (fun a' b' c' x1 x2 => ?_)⟩)))
              refine hy _ _ (br_t rfl (ky _ _ (br_t rfl (br_f h1 (br_t h2 (br_f h3 (br_t h4 ⟨N + 1, gY f g h mk _ hY (fun f' g' h' y1 y2 => ?_)⟩)))))))
              exact ⟨rfl, ta_R I x1 y1 x2 y2 _⟩
            · exact br_f h1 (br_t h2 (br_f h3 (br_f h4 (hy _ _ (br_t rfl (ky _ _ (br_t rfl (br_f h1 (br_t h2 (br_f h3 (br_f h4 ⟨rfl, i_up I⟩)))))))))))
        · exact br_f h1 (br_f h2 (hy _ _ (br_t rfl (ky _ _ (br_t rfl (br_f h1 (br_f h2 ⟨rfl, i_up I⟩)))))))
/-! ===== remove ===== -/
def ta_rm (F : Nat → Nat) (i j : Nat) : Nat := if j < i then F j else F (j + 1)
theorem ta_rm1 {F : Nat → Nat} {i j : Nat} (h : j < i) : ta_rm F i j = F j := if_pos h
theorem ta_rm2 {F : Nat → Nat} {i j : Nat} (h : i ≤ j) : ta_rm F i j = F (j + 1) := if_neg (by omega)
def ta_D (a b : Nat → Int32) (t m : Nat) (F G : Nat → Nat) (i j : Nat) (a1 b1 : Nat → Int32) : Prop :=
  (∀ p, (p < 32 * t ∨ 32 * t + 32 ≤ p) → a1 p = a p ∧ b1 p = b p) ∧ (∀ l, l < j → a1 (32 * t + l) = nI (ta_rm F i l) ∧ b1 (32 * t + l) = nI (ta_rm G i l)) ∧ (∀ l, j ≤ l → l < m → a1 (32 * t + l) = nI (F l) ∧ b1 (32 * t + l) = nI (G l))
theorem ta_D0 {a b c : Nat → Int32} {t m i : Nat} {F G : Nat → Nat} (hT : ta_T a b c t m F G) (hi : i < m) : ta_D a b t m F G i i a b :=
  ⟨fun _ _ => ⟨rfl, rfl⟩, fun l hl => by rw [ta_rm1 hl, ta_rm1 hl]; exact ⟨(hT.2.2 l (by omega)).1, (hT.2.2 l (by omega)).2.1⟩, fun l _ hl => ⟨(hT.2.2 l hl).1, (hT.2.2 l hl).2.1⟩⟩
theorem ta_Ds {a b a1 b1 : Nat → Int32} {t m i j : Nat} {F G : Nat → Nat} (h : ta_D a b t m F G i j a1 b1) (hi : i ≤ j) (hj : j + 1 < m) (hm : m ≤ 32) : ta_D a b t m F G i (j + 1) (upd a1 (32 * t + j) (a1 (32 * t + (j + 1)))) (upd b1 (32 * t + j) (b1 (32 * t + (j + 1)))) := by
  refine ⟨fun p hp => ?_, fun l hl => ?_, fun l h1 h2 => ?_⟩
  · rw [pk_un (by omega), pk_un (by omega)]
    exact h.1 p hp
  · by_cases e : l = j
    · subst e
      rw [pk_us, pk_us, ta_rm2 hi, ta_rm2 hi]
      exact h.2.2 (l + 1) (by omega) hj
    · rw [pk_un (by omega), pk_un (by omega)]
      exact h.2.1 l (by omega)
  · rw [pk_un (by omega), pk_un (by omega)]
    exact h.2.2 l (by omega) h2
theorem ta_De {a b c a1 b1 : Nat → Int32} {t m i j : Nat} {F G : Nat → Nat} (hT : ta_T a b c t m F G) (h : ta_D a b t m F G i j a1 b1) (hj : j + 1 = m) : ta_F a b c a1 b1 (upd c t (nI (m - 1))) t ∧ ta_T a1 b1 (upd c t (nI (m - 1))) t (m - 1) (ta_rm F i) (ta_rm G i) := by
  have hm := hT.2.1
  refine ⟨⟨fun p hp => h.1 p hp, fun x hx => pk_un hx⟩, pk_us, by omega, fun l hl => ?_⟩
  have z := h.2.1 l (by omega)
  refine ⟨z.1, z.2, ?_⟩
  by_cases w : l < i
  · rw [ta_rm1 w, ta_rm1 w]
    exact (hT.2.2 l (by omega)).2.2
  · rw [ta_rm2 (by omega), ta_rm2 (by omega)]
    exact (hT.2.2 (l + 1) (by omega)).2.2
theorem ta_xrl {post : Int32 → SX → Prop} {a b c : Nat → Int32} {t m i : Nat} {F G : Nat → Nat} (hT : ta_T a b c t m F G) (ht : t < 3) (H : ∀ a' b' c' : Nat → Int32, ta_F a b c a' b' c' t → ta_T a' b' c' t (m - 1) (ta_rm F i) (ta_rm G i) → post (nI (m - 1)) (a', b', c')) : ∀ (d j : Nat) (a1 b1 : Nat → Int32), j + d + 1 = m → i ≤ j → ta_D a b t m F G i j a1 b1 → wX_remove_43 post (nI t) (nI (32 * t + m - 1)) (d + 1) (nI (32 * t + j)) a1 b1 c
  | 0, j, a1, b1, hj, hi, h => by
    have hm := hT.2.1
    have vt : vp_in (nI t) 3 := pk_in t 3 ht
    refine pk_le (32 * t + m - 1) (32 * t + j) (fun _ => ⟨vt, vt, fun c' ec => ⟨vt, ?_⟩⟩) (fun z => absurd z (by omega))
    rw [ta_c hT ht, ta_m1 (by omega), nI_clamp (by omega)] at ec
    subst ec
    have z := ta_De hT h (by omega)
    rw [ta_c z.2 ht]
    exact H _ _ _ z.1 z.2
  | d + 1, j, a1, b1, hj, hi, h => by
    have hm := hT.2.1
    have vj : vp_in (nI (32 * t + j)) 96 := pk_in (32 * t + j) 96 (by omega)
    have vk : vp_in (nI (32 * t + j) + 1) 96 := pk_in (32 * t + (j + 1)) 96 (by omega) (nI_1 _)
    refine pk_le (32 * t + m - 1) (32 * t + j) (fun z => absurd z (by omega)) (fun _ => ⟨vk, vj, fun a' ea => ⟨vk, vj, fun b' eb => nm_r (nI_1 _) ?_⟩⟩)
    rw [nI_1, nI_clamp (by omega), nI_clamp (by omega)] at ea eb
    subst ea eb
    exact ta_xrl hT ht H d (j + 1) _ _ (by omega) (by omega) (ta_Ds h hi (by omega) hm)
theorem ta_ydl {post : SY → Prop} {a b c mk : Nat → Int32} {t m i : Nat} {F G : Nat → Nat} (hT : ta_T a b c t m F G) (ht : t < 3) (H : ∀ a' b' c' : Nat → Int32, ta_F a b c a' b' c' t → ta_T a' b' c' t (m - 1) (ta_rm F i) (ta_rm G i) → post (a', b', c', mk)) : ∀ (d j : Nat) (a1 b1 : Nat → Int32), j + d + 1 = m → i ≤ j → ta_D a b t m F G i j a1 b1 → wY_drop_2 post (nI t) (d + 1) (nI j) a1 b1 c mk
  | 0, j, a1, b1, hj, hi, h => by
    have hm := hT.2.1
    have vt : vp_in (nI t) 3 := pk_in t 3 ht
    refine ⟨vt, pk_le m (j + 1) (fun _ => ⟨vt, vt, fun c' ec => ?_⟩) (fun z => absurd z (by omega)) (ta_c hT ht) (nI_1 j)⟩
    rw [ta_c hT ht, ta_m1 (by omega), nI_clamp (by omega)] at ec
    subst ec
    have z := ta_De hT h (by omega)
    exact H _ _ _ z.1 z.2
  | d + 1, j, a1, b1, hj, hi, h => by
    have hm := hT.2.1
    have ek : nI t * 32 + nI j + 1 = nI (32 * t + (j + 1)) := by rw [ta_pl]; exact nI_1 _
    have vt : vp_in (nI t) 3 := pk_in t 3 ht
    have vj : vp_in (nI t * 32 + nI j) 96 := pk_in (32 * t + j) 96 (by omega) (ta_pl t j)
    have vk : vp_in (nI t * 32 + nI j + 1) 96 := pk_in (32 * t + (j + 1)) 96 (by omega) ek
    refine ⟨vt, pk_le m (j + 1) (fun z => absurd z (by omega)) (fun _ => ⟨vk, vj, fun a' ea => ⟨vk, vj, fun b' eb => nm_r (nI_1 _) ?_⟩⟩) (ta_c hT ht) (nI_1 j)⟩
    rw [ek, ta_pl, nI_clamp (by omega), nI_clamp (by omega)] at ea eb
    subst ea eb
    exact ta_ydl hT ht H d (j + 1) _ _ (by omega) (by omega) (ta_Ds h hi (by omega) hm)
theorem ta_ydr {post : SY → Prop} {a b c mk : Nat → Int32} {t m i : Nat} {F G : Nat → Nat} (hT : ta_T a b c t m F G) (ht : t < 3) (hi : i < m) (H : ∀ a' b' c' : Nat → Int32, ta_F a b c a' b' c' t → ta_T a' b' c' t (m - 1) (ta_rm F i) (ta_rm G i) → post (a', b', c', mk)) : wpY_drop post (a, b, c, mk) (nI t) (nI i) :=
  ⟨m - 1 - i + 1, ta_ydl hT ht H (m - 1 - i) i a b (by omega) (Nat.le_refl i) (ta_D0 hT hi)⟩
theorem i_vc_remove {k : Nat} {u : SX} {v : SY} (I : i_Rel k u v) (hk : k + 5 ≤ 2560) (v1 : Int32) (v2 : Int32) : wpX_remove (fun r u' => wpY_remove (fun r' v' => r' = r ∧ i_Rel (k + 5) u' v') v v1 v2) u v1 v2 := by
  obtain ⟨a, b, c⟩ := u
  obtain ⟨f, g, h, mk⟩ := v
  unfold wpX_remove wpY_remove
  dsimp only
  rcases ta_trk v1 with ⟨hx, hy⟩ | ⟨t, ht, rfl, hx, hy⟩
  · exact hx _ (br_t rfl (hy _ _ (br_f ta_10 ⟨rfl, i_up I⟩)))
  · obtain ⟨m, F, G, hX, hY⟩ := ta_I I ht
    have vt : vp_in (nI t) 3 := pk_in t 3 ht
    rcases ta_num (mk := mk) hX hY ht v2 with ⟨kx, ky⟩ | ⟨i, hi, rfl, kx, ky⟩
    · exact hx _ (br_f ta_10 (kx _ (br_t rfl (hy _ _ (br_t rfl (ky _ (br_f ta_10 ⟨rfl, i_up I⟩)))))))
    · have hm := hX.2.1
      refine hx _ (br_f ta_10 (kx _ (br_f ta_10 ⟨vt, nm_r (e' := nI (32 * t + m - 1)) ?_ (nm_r (ta_pl t i) ⟨m - 1 - i + 1, ?_⟩)⟩)))
      · rw [ta_c hX ht, ta_pl, ta_m1 (by omega)]
      · refine ta_xrl hX ht (fun a' b' c' x1 x2 => hy _ _ (br_t rfl (ky _ (br_t rfl ?_)))) (m - 1 - i) i a b (by omega) (Nat.le_refl i) (ta_D0 hX hi)
        exact ta_ydr hY ht hi (fun f' g' h' y1 y2 => ⟨vt, ta_c y2 ht, ta_R I x1 y1 x2 y2 _⟩)
