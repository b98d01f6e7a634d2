/-! ===== further walks that only read ===== -/
theorem ta_ov_l {a b c f g h mk : Nat → Int32} {t m s e : Nat} {F G : Nat → Nat} {x : Int32} (hX : ta_T a b c t m F G) (hY : ta_T f g h t m F G) (ht : t < 3) (hse : s < e) (be : e ≤ 64) (hq : x / 65 = nI s) (hr : x - x / 65 * 65 = nI e) (k : Int32) : ∀ d i n, i + d = m → ∃ r : Int32, (∀ post : Int32 → Prop, post r → wX_overlap_37 post (nI t) k (nI s) (nI e) a b c (d + 1) (nI n) (nI i)) ∧ (∀ post : Int32 → Prop, post r → wY_overlap_27 post (nI t) x k f g h mk (d + 1) (nI n) (nI i))
  | 0, i, n, hi => by
    have hm := hX.2.1
    obtain rfl : i = m := by omega
    exact ⟨-3, fun _ hp => ⟨pk_in t 3 ht, pk_le i i (fun _ => hp) (fun z => absurd z (by omega)) (ta_c hX ht) rfl⟩, fun _ hp => ⟨pk_in t 3 ht, pk_le i i (fun _ => hp) (fun z => absurd z (by omega)) (ta_c hY ht) rfl⟩⟩
  | d + 1, i, n, hi => by
    have hm := hX.2.1
    have q := hX.2.2 i (by omega)
    have q' := hY.2.2 i (by omega)
    have goX : ∀ post : Int32 → Prop, (F i < e ∧ s < G i → (nI n = k → post (nI i)) ∧ (¬ nI n = k → wX_overlap_37 post (nI t) k (nI s) (nI e) a b c (d + 1) (nI (n + 1)) (nI (i + 1)))) → (¬ (F i < e ∧ s < G i) → wX_overlap_37 post (nI t) k (nI s) (nI e) a b c (d + 1) (nI n) (nI (i + 1))) → wX_overlap_37 post (nI t) k (nI s) (nI e) a b c (d + 1 + 1) (nI n) (nI i) := by
      intro post h1 h0
      refine ⟨pk_in t 3 ht, pk_le m i (fun z => absurd z (by omega)) (fun _ => ?_) (ta_c hX ht) rfl⟩
      refine ta_xmeets (32 * t + i) (F i) (G i) s e (ta_pl t i) (by omega) q.1 q.2.1 (by omega) (by omega) (by omega) (by omega) (fun z => ?_) (fun z => ?_)
      · exact br_f ta_10 ⟨(h1 z).1, fun w => nm_r (nI_1 n) (nm_r (nI_1 i) ((h1 z).2 w))⟩
      · exact br_t rfl (nm_r (nI_1 i) (h0 z))
    have goY : ∀ post : Int32 → Prop, (F i < e ∧ s < G i → (nI n = k → post (nI i)) ∧ (¬ nI n = k → wY_overlap_27 post (nI t) x k f g h mk (d + 1) (nI (n + 1)) (nI (i + 1)))) → (¬ (F i < e ∧ s < G i) → wY_overlap_27 post (nI t) x k f g h mk (d + 1) (nI n) (nI (i + 1))) → wY_overlap_27 post (nI t) x k f g h mk (d + 1 + 1) (nI n) (nI i) := by
      intro post h1 h0
      refine ⟨pk_in t 3 ht, pk_le m i (fun z => absurd z (by omega)) (fun _ => ⟨ta_65, ta_65, ?_⟩) (ta_c hY ht) rfl⟩
      rw [hr, hq]
      refine ta_ymeets (F i) (G i) ht (by omega) q'.1 q'.2.1 q'.2.2.1 q'.2.2.2 hse be (fun z => ?_) (fun z => ?_)
      · exact br_f ta_10 ⟨(h1 z).1, fun w => nm_r (nI_1 n) (nm_r (nI_1 i) ((h1 z).2 w))⟩
      · exact br_t rfl (nm_r (nI_1 i) (h0 z))
    by_cases z : F i < e ∧ s < G i
    · by_cases w : nI n = k
      · exact ⟨nI i, fun post hp => goX post (fun _ => br_t w hp) (fun y => absurd z y), fun post hp => goY post (fun _ => br_t w hp) (fun y => absurd z y)⟩
      · obtain ⟨r, h1, h2⟩ := ta_ov_l (mk := mk) hX hY ht hse be hq hr k d (i + 1) (n + 1) (by omega)
        exact ⟨r, fun post hp => goX post (fun _ => br_f w (h1 post hp)) (fun y => absurd z y), fun post hp => goY post (fun _ => br_f w (h2 post hp)) (fun y => absurd z y)⟩
    · obtain ⟨r, h1, h2⟩ := ta_ov_l (mk := mk) hX hY ht hse be hq hr k d (i + 1) n (by omega)
      exact ⟨r, fun post hp => goX post (fun y => absurd y z) (fun _ => h1 post hp), fun post hp => goY post (fun y => absurd y z) (fun _ => h2 post hp)⟩
theorem i_vc_overlap {k : Nat} {u : SX} {v : SY} (I : i_Rel k u v) (hk : k + 5 ≤ 2560) (v1 : Int32) (v2 : Int32) (v3 : Int32) : wpX_overlap (fun r => wpY_overlap (fun r' => r' = r ∧ i_Rel (k + 5) u v) v v1 v2 v3) u v1 v2 v3 := by
  obtain ⟨a, b, c⟩ := u
  obtain ⟨f, g, h, mk⟩ := v
  unfold wpX_overlap wpY_overlap
  dsimp only
  rcases ta_trk v1 with ⟨hx, hy⟩ | ⟨t, ht, rfl, hx, hy⟩
  · exact hx _ (br_t rfl (hy _ _ (br_f ta_10 ⟨rfl, i_up I⟩)))
  · obtain ⟨m, F, G, hX, hY⟩ := ta_I I ht
    rcases ta_str v2 with ⟨kx, ky⟩ | ⟨s, e, hse, be, hq, hr, kx, ky⟩
    · exact hx _ (br_f ta_10 (kx _ (br_t rfl (hy _ _ (br_t rfl (ky _ _ (br_f ta_10 ⟨rfl, i_up I⟩)))))))
    · obtain ⟨r, h1, h2⟩ := ta_ov_l (mk := mk) hX hY ht hse be hq hr v3 m 0 0 (by omega)
      exact hx _ (br_f ta_10 (kx _ (br_f ta_10 ⟨ta_65, nm_r hq ⟨ta_65, nm_r hr ⟨m + 1, h1 _ (hy _ _ (br_t rfl (ky _ _ (br_t rfl ⟨m + 1, h2 _ ⟨rfl, i_up I⟩⟩))))⟩⟩⟩)))
def ta_ar (F G : Nat → Nat) (s e i : Nat) : Bool := decide (F i ≤ s ∧ e ≤ G i)
theorem ta_art {F G : Nat → Nat} {s e i : Nat} (h : F i ≤ s ∧ e ≤ G i) : ta_ar F G s e i = true := decide_eq_true h
theorem ta_arf {F G : Nat → Nat} {s e i : Nat} (h : ¬ (F i ≤ s ∧ e ≤ G i)) : ta_ar F G s e i = false := decide_eq_false h
theorem ta_xar {post : Int32 → Prop} {a b c : Nat → Int32} {t m s e : Nat} {F G : Nat → Nat} (hT : ta_T a b c t m F G) (ht : t < 3) (bs : s ≤ 64) (be : e ≤ 64) (hp : post (nI (ta_cn (ta_ar F G s e) m))) : ∀ d i, i + d = m → wX_around_36 post (nI t) (nI s) (nI e) a b c (d + 1) (nI (ta_cn (ta_ar F G s e) i)) (nI i)
  | 0, i, hi => by
    have hm := hT.2.1
    obtain rfl : i = m := by omega
    exact ⟨pk_in t 3 ht, pk_le i i (fun _ => hp) (fun z => absurd z (by omega)) (ta_c hT ht) rfl⟩
  | d + 1, i, hi => by
    have hm := hT.2.1
    have q := hT.2.2 i (by omega)
    have ih := ta_xar hT ht bs be hp d (i + 1) (by omega)
    have vi : vp_in (nI (32 * t + i)) 96 := pk_in (32 * t + i) 96 (by omega)
    refine ⟨pk_in t 3 ht, pk_le m i (fun z => absurd z (by omega)) (fun _ => nm_r (ta_pl t i) ⟨vi, vi, ?_⟩) (ta_c hT ht) rfl⟩
    refine pk_lt s (F i) (fun z => ?_) (fun z => pk_lt (G i) e (fun w => ?_) (fun w => ?_) (ta_g _ rfl q.2.1 (by omega)) rfl) rfl (ta_g _ rfl q.1 (by omega))
    · rw [ta_cnf (ta_arf (by omega))] at ih
      exact br_t rfl (nm_r (nI_1 i) ih)
    · rw [ta_cnf (ta_arf (by omega))] at ih
      exact br_t rfl (nm_r (nI_1 i) ih)
    · exact br_f ta_10 (nm_r (ta_n1 (ta_art (by omega))) (nm_r (nI_1 i) ih))
theorem ta_yar {post : Int32 → Prop} {a b c mk : Nat → Int32} {t m s e : Nat} {F G : Nat → Nat} {x : Int32} (hT : ta_T a b c t m F G) (ht : t < 3) (bs : s ≤ 64) (be : e ≤ 64) (hq : x / 65 = nI s) (hr : x - x / 65 * 65 = nI e) (hp : post (nI (ta_cn (ta_ar F G s e) m))) : ∀ d i, i + d = m → wY_around_26 post (nI t) x a b c mk (d + 1) (nI (ta_cn (ta_ar F G s e) i)) (nI i)
  | 0, i, hi => by
    have hm := hT.2.1
    obtain rfl : i = m := by omega
    exact ⟨pk_in t 3 ht, pk_le i i (fun _ => hp) (fun z => absurd z (by omega)) (ta_c hT ht) rfl⟩
  | d + 1, i, hi => by
    have hm := hT.2.1
    have q := hT.2.2 i (by omega)
    have ih := ta_yar (mk := mk) hT ht bs be hq hr hp d (i + 1) (by omega)
    have vi : vp_in (nI t * 32 + nI i) 96 := pk_in (32 * t + i) 96 (by omega) (ta_pl t i)
    refine ⟨pk_in t 3 ht, pk_le m i (fun z => absurd z (by omega)) (fun _ => ⟨vi, ta_65, ?_⟩) (ta_c hT ht) rfl⟩
    refine pk_lt s (F i) (fun z => ?_) (fun z => ⟨ta_65, vi, pk_lt (G i) e (fun w => ?_) (fun w => ?_) (ta_g _ (ta_pl t i) q.2.1 (by omega)) hr⟩) hq (ta_g _ (ta_pl t i) q.1 (by omega))
    · rw [ta_cnf (ta_arf (by omega))] at ih
      exact nm_r (nI_1 i) ih
    · rw [ta_cnf (ta_arf (by omega))] at ih
      exact nm_r (nI_1 i) ih
    · exact nm_r (ta_n1 (ta_art (by omega))) (nm_r (nI_1 i) ih)
theorem i_vc_around {k : Nat} {u : SX} {v : SY} (I : i_Rel k u v) (hk : k + 5 ≤ 2560) (v1 : Int32) (v2 : Int32) : wpX_around (fun r => wpY_around (fun r' => r' = r ∧ i_Rel (k + 5) u v) v v1 v2) u v1 v2 := by
  obtain ⟨a, b, c⟩ := u
  obtain ⟨f, g, h, mk⟩ := v
  unfold wpX_around wpY_around
  dsimp only
  rcases ta_trk v1 with ⟨hx, hy⟩ | ⟨t, ht, rfl, hx, hy⟩
  · exact hx _ (br_t rfl (hy _ _ (br_f ta_10 ⟨rfl, i_up I⟩)))
  · obtain ⟨m, F, G, hX, hY⟩ := ta_I I ht
    rcases ta_str v2 with ⟨kx, ky⟩ | ⟨s, e, hse, be, hq, hr, kx, ky⟩
    · exact hx _ (br_f ta_10 (kx _ (br_t rfl (hy _ _ (br_t rfl (ky _ _ (br_f ta_10 ⟨rfl, i_up I⟩)))))))
    · exact hx _ (br_f ta_10 (kx _ (br_f ta_10 ⟨ta_65, nm_r hq ⟨ta_65, nm_r hr ⟨m + 1, ta_xar hX ht (by omega) be (hy _ _ (br_t rfl (ky _ _ (br_t rfl ⟨m + 1, ta_yar hY ht (by omega) be hq hr ⟨rfl, i_up I⟩ m 0 (by omega)⟩)))) m 0 (by omega)⟩⟩⟩)))
theorem i_vc_depth {k : Nat} {u : SX} {v : SY} (I : i_Rel k u v) (hk : k + 5 ≤ 2560) (v1 : Int32) (v2 : Int32) : wpX_depth (fun r => wpY_depth (fun r' => r' = r ∧ i_Rel (k + 5) u v) v v1 v2) u v1 v2 := by
  obtain ⟨a, b, c⟩ := u
  obtain ⟨f, g, h, mk⟩ := v
  unfold wpX_depth wpY_depth
  dsimp only
  rcases ta_trk v1 with ⟨hx, hy⟩ | ⟨t, ht, rfl, hx, hy⟩
  · exact hx _ (br_t rfl (hy _ _ (br_f ta_10 ⟨rfl, i_up I⟩)))
  · obtain ⟨m, F, G, hX, hY⟩ := ta_I I ht
    by_cases z : v2 < 0
    · exact hx _ (br_f ta_10 (br_t z (hy _ _ (br_t rfl (br_t z ⟨rfl, i_up I⟩)))))
    · obtain ⟨p, hp, rfl⟩ := nI_of z
      refine hx _ (br_f ta_10 (br_f z (pk_lt p 64 (fun w => ?_) (fun w => ?_))))
      · exact ta_xda hX ht w (hy _ _ (br_t rfl (br_f z (br_t (nI_le (b := 63) (by omega) (by decide)) (ta_yd hY ht w ⟨rfl, i_up I⟩)))))
      · exact hy _ _ (br_t rfl (br_f z (pk_le p 63 (fun y => absurd y (by omega)) (fun _ => ⟨rfl, i_up I⟩))))
/-! the greatest -/
def ta_mx (p : Nat → Nat) : Nat → Nat
  | 0 => 0
  | i + 1 => if p i ≤ ta_mx p i then ta_mx p i else p i
theorem ta_mxle {p : Nat → Nat} {B : Nat} (h : ∀ i, p i ≤ B) : ∀ i, ta_mx p i ≤ B
  | 0 => Nat.zero_le _
  | i + 1 => by
    rw [ta_mx]
    split
    · exact ta_mxle h i
    · exact h i
theorem ta_xdp {post : Int32 → Prop} {a b c : Nat → Int32} {t m : Nat} {F G : Nat → Nat} (hT : ta_T a b c t m F G) (ht : t < 3) (hp : post (nI (ta_mx (fun p => ta_cn (ta_mt F G p (p + 1)) m) 64))) : ∀ d i, i + d = 64 → wX_deepest_13 post (nI t) a b c (d + 1) (nI (ta_mx (fun p => ta_cn (ta_mt F G p (p + 1)) m) i)) (nI i)
  | 0, i, hi => by
    obtain rfl : i = 64 := by omega
    exact pk_le 64 64 (fun _ => hp) (fun z => absurd z (by omega))
  | d + 1, i, hi => by
    have hm := hT.2.1
    have ih := ta_xdp hT ht hp d (i + 1) (by omega)
    have b1 := ta_cnle (ta_mt F G i (i + 1)) m
    have b2 : ta_mx (fun p => ta_cn (ta_mt F G p (p + 1)) m) i ≤ m := ta_mxle (fun p => ta_cnle _ m) i
    rw [ta_mx] at ih
    refine pk_le 64 i (fun z => absurd z (by omega)) (fun _ => ta_xda hT ht (by omega) (pk_le _ _ (fun z => ?_) (fun z => ?_)))
    · rw [if_pos z] at ih
      exact nm_r (nI_1 i) ih
    · rw [if_neg (Nat.not_le.mpr z)] at ih
      exact nm_r (nI_1 i) ih
theorem ta_ydp {post : Int32 → Prop} {a b c mk : Nat → Int32} {t m : Nat} {F G : Nat → Nat} (hT : ta_T a b c t m F G) (ht : t < 3) (hp : post (nI (ta_mx (fun p => ta_cn (ta_mt F G p (p + 1)) m) 64))) : ∀ d i, i + d = 64 → wY_deepest_14 post (nI t) a b c mk (d + 1) (nI (ta_mx (fun p => ta_cn (ta_mt F G p (p + 1)) m) i)) (nI i)
  | 0, i, hi => by
    obtain rfl : i = 64 := by omega
    exact pk_le 64 64 (fun _ => hp) (fun z => absurd z (by omega))
  | d + 1, i, hi => by
    have hm := hT.2.1
    have ih := ta_ydp (mk := mk) hT ht hp d (i + 1) (by omega)
    have b1 := ta_cnle (ta_mt F G i (i + 1)) m
    have b2 : ta_mx (fun p => ta_cn (ta_mt F G p (p + 1)) m) i ≤ m := ta_mxle (fun p => ta_cnle _ m) i
    rw [ta_mx] at ih
    refine pk_le 64 i (fun z => absurd z (by omega)) (fun _ => ta_yd hT ht (by omega) (pk_le _ _ (fun z => ?_) (fun z => ?_)))
    · rw [if_pos z] at ih
      exact nm_r (nI_1 i) ih
    · rw [if_neg (Nat.not_le.mpr z)] at ih
      exact nm_r (nI_1 i) ih
theorem i_vc_deepest {k : Nat} {u : SX} {v : SY} (I : i_Rel k u v) (hk : k + 5 ≤ 2560) (v1 : Int32) : wpX_deepest (fun r => wpY_deepest (fun r' => r' = r ∧ i_Rel (k + 5) u v) v v1) u v1 := by
  obtain ⟨a, b, c⟩ := u
  obtain ⟨f, g, h, mk⟩ := v
  unfold wpX_deepest wpY_deepest
  dsimp only
  rcases ta_trk v1 with ⟨hx, hy⟩ | ⟨t, ht, rfl, hx, hy⟩
  · exact hx _ (br_t rfl (hy _ _ (br_f ta_10 ⟨rfl, i_up I⟩)))
  · obtain ⟨m, F, G, hX, hY⟩ := ta_I I ht
    exact hx _ (br_f ta_10 ⟨65, ta_xdp hX ht (hy _ _ (br_t rfl ⟨65, ta_ydp hY ht ⟨rfl, i_up I⟩ 64 0 rfl⟩)) 64 0 rfl⟩)
def ta_cv (F G : Nat → Nat) (m d p : Nat) : Bool := decide (d ≤ ta_cn (ta_mt F G p (p + 1)) m)
theorem ta_cvt {F G : Nat → Nat} {m d p : Nat} (h : d ≤ ta_cn (ta_mt F G p (p + 1)) m) : ta_cv F G m d p = true := decide_eq_true h
theorem ta_cvf {F G : Nat → Nat} {m d p : Nat} (h : ta_cn (ta_mt F G p (p + 1)) m < d) : ta_cv F G m d p = false := decide_eq_false (by omega)
theorem ta_xcv {post : Int32 → Prop} {a b c : Nat → Int32} {t m x : Nat} {F G : Nat → Nat} (hT : ta_T a b c t m F G) (ht : t < 3) (bx : x ≤ 32) (hp : post (nI (ta_cn (ta_cv F G m x) 64))) : ∀ d i, i + d = 64 → wX_covered_27 post (nI t) (nI x) a b c (d + 1) (nI (ta_cn (ta_cv F G m x) i)) (nI i)
  | 0, i, hi => by
    obtain rfl : i = 64 := by omega
    exact pk_le 64 64 (fun _ => hp) (fun z => absurd z (by omega))
  | d + 1, i, hi => by
    have hm := hT.2.1
    have ih := ta_xcv hT ht bx hp d (i + 1) (by omega)
    have b1 := ta_cnle (ta_mt F G i (i + 1)) m
    refine pk_le 64 i (fun z => absurd z (by omega)) (fun _ => ta_xda hT ht (by omega) (pk_lt _ x (fun z => ?_) (fun z => ?_)))
    · rw [ta_cnf (ta_cvf z)] at ih
      exact nm_r (nI_1 i) ih
    · exact nm_r (ta_n1 (ta_cvt z)) (nm_r (nI_1 i) ih)
theorem ta_ycv {post : Int32 → Prop} {a b c mk : Nat → Int32} {t m x : Nat} {F G : Nat → Nat} (hT : ta_T a b c t m F G) (ht : t < 3) (bx : x ≤ 32) (hp : post (nI (ta_cn (ta_cv F G m x) 64))) : ∀ d i, i + d = 64 → wY_covered_28 post (nI t) (nI x) a b c mk (d + 1) (nI (ta_cn (ta_cv F G m x) i)) (nI i)
  | 0, i, hi => by
    obtain rfl : i = 64 := by omega
    exact pk_le 64 64 (fun _ => hp) (fun z => absurd z (by omega))
  | d + 1, i, hi => by
    have hm := hT.2.1
    have ih := ta_ycv (mk := mk) hT ht bx hp d (i + 1) (by omega)
    have b1 := ta_cnle (ta_mt F G i (i + 1)) m
    refine pk_le 64 i (fun z => absurd z (by omega)) (fun _ => ta_yd hT ht (by omega) (pk_lt _ x (fun z => ?_) (fun z => ?_)))
    · rw [ta_cnf (ta_cvf z)] at ih
      exact nm_r (nI_1 i) ih
    · exact nm_r (ta_n1 (ta_cvt z)) (nm_r (nI_1 i) ih)
theorem i_vc_covered {k : Nat} {u : SX} {v : SY} (I : i_Rel k u v) (hk : k + 5 ≤ 2560) (v1 : Int32) (v2 : Int32) : wpX_covered (fun r => wpY_covered (fun r' => r' = r ∧ i_Rel (k + 5) u v) v v1 v2) u v1 v2 := by
  obtain ⟨a, b, c⟩ := u
  obtain ⟨f, g, h, mk⟩ := v
  unfold wpX_covered wpY_covered
  dsimp only
  rcases ta_trk v1 with ⟨hx, hy⟩ | ⟨t, ht, rfl, hx, hy⟩
  · exact hx _ (br_t rfl (hy _ _ (br_f ta_10 ⟨rfl, i_up I⟩)))
  · obtain ⟨m, F, G, hX, hY⟩ := ta_I I ht
    by_cases z : v2 < 0
    · exact hx _ (br_f ta_10 (br_t z (hy _ _ (br_t rfl (br_t z ⟨rfl, i_up I⟩)))))
    · by_cases w : v2 ≤ 32
      · obtain ⟨x, bx, rfl⟩ := nI_of2 (n := 32) (by decide) z w
        exact hx _ (br_f ta_10 (br_f z (br_t w ⟨65, ta_xcv hX ht bx (hy _ _ (br_t rfl (br_f z (br_t w ⟨65, ta_ycv hY ht bx ⟨rfl, i_up I⟩ 64 0 rfl⟩)))) 64 0 rfl⟩)))
      · exact hx _ (br_f ta_10 (br_f z (br_f w (hy _ _ (br_t rfl (br_f z (br_f w ⟨rfl, i_up I⟩)))))))
