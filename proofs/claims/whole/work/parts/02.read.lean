/-! ===== walks that only read ===== -/
theorem ta_I {k : Nat} {a b c f g h mk : Nat → Int32} (I : i_Rel k (a, b, c) (f, g, h, mk)) {t : Nat} (ht : t < 3) : ∃ m F G, ta_T a b c t m F G ∧ ta_T f g h t m F G := I t ht
def ta_mt (F G : Nat → Nat) (s e i : Nat) : Bool := decide (F i < e ∧ s < G i)
theorem ta_mtt {F G : Nat → Nat} {s e i : Nat} (h : F i < e ∧ s < G i) : ta_mt F G s e i = true := decide_eq_true h
theorem ta_mtf {F G : Nat → Nat} {s e i : Nat} (h : ¬ (F i < e ∧ s < G i)) : ta_mt F G s e i = false := decide_eq_false h
theorem ta_n1 {p : Nat → Bool} {i : Nat} (h : p i = true) : nI (ta_cn p i) + 1 = nI (ta_cn p (i + 1)) := by rw [nI_1, ta_cnt h]
theorem ta_xmeets {post : Int32 → Prop} {a b c : Nat → Int32} {q : Int32} (p x y s e : Nat) (hq : q = nI p) (hp : p < 96) (ha : a p = nI x) (hb : b p = nI y) (bx : x ≤ 64) (bY : y ≤ 64) (bs : s ≤ 64) (be : e ≤ 65) (h1 : x < e ∧ s < y → post 1) (h0 : ¬ (x < e ∧ s < y) → post 0) : wpX_meets post (a, b, c) q (nI s) (nI e) :=
  ⟨pk_in p 96 hp hq, pk_le e x (fun z => h0 (by omega)) (fun z => ⟨pk_in p 96 hp hq, pk_le y s (fun w => h0 (by omega)) (fun w => h1 ⟨z, w⟩) (ta_g p hq hb (by omega)) rfl⟩) rfl (ta_g p hq ha (by omega))⟩
theorem ta_xcm_l {post : Int32 → Prop} {a b c : Nat → Int32} {t m s e : Nat} {F G : Nat → Nat} (hT : ta_T a b c t m F G) (ht : t < 3) (bs : s ≤ 64) (be : e ≤ 65) (hp : post (nI (ta_cn (ta_mt F G s e) m))) : ∀ d i, i + d = m → wX_countMeeting_6 post (nI t) (nI s) (nI e) a b c (d + 1) (nI (ta_cn (ta_mt F G s e) i)) (nI i)
  | 0, i, hi => by
    have hm := hT.2.1
    obtain rfl : i = m := by omega
    exact ⟨pk_in t 3 ht, pk_le i i (fun _ => hp) (fun z => absurd z (by omega)) (ta_c hT ht) rfl⟩
  | d + 1, i, hi => by
    have hm := hT.2.1
    have q := hT.2.2 i (by omega)
    have ih := ta_xcm_l hT ht bs be hp d (i + 1) (by omega)
    refine ⟨pk_in t 3 ht, pk_le m i (fun z => absurd z (by omega)) (fun _ => ?_) (ta_c hT ht) rfl⟩
    refine ta_xmeets (32 * t + i) (F i) (G i) s e (ta_pl t i) (by omega) q.1 q.2.1 (by omega) (by omega) bs be (fun z => ?_) (fun z => ?_)
    · exact br_f ta_10 (nm_r (ta_n1 (ta_mtt z)) (nm_r (nI_1 i) ih))
    · rw [ta_cnf (ta_mtf z)] at ih
      exact br_t rfl (nm_r (nI_1 i) ih)
theorem ta_xcm {post : Int32 → Prop} {a b c : Nat → Int32} {t m s e : Nat} {F G : Nat → Nat} (hT : ta_T a b c t m F G) (ht : t < 3) (bs : s ≤ 64) (be : e ≤ 65) (hp : post (nI (ta_cn (ta_mt F G s e) m))) : wpX_countMeeting post (a, b, c) (nI t) (nI s) (nI e) :=
  ⟨m + 1, ta_xcm_l hT ht bs be hp m 0 (by omega)⟩
theorem ta_xda {post : Int32 → Prop} {a b c : Nat → Int32} {t m p : Nat} {F G : Nat → Nat} (hT : ta_T a b c t m F G) (ht : t < 3) (bp : p < 64) (hp : post (nI (ta_cn (ta_mt F G p (p + 1)) m))) : wpX_depthAt post (a, b, c) (nI t) (nI p) := by
  unfold wpX_depthAt
  dsimp only
  rw [nI_1]
  exact ta_xcm hT ht (by omega) (by omega) hp
theorem ta_yd_l {post : Int32 → Prop} {a b c mk : Nat → Int32} {t m p : Nat} {F G : Nat → Nat} (hT : ta_T a b c t m F G) (ht : t < 3) (bp : p < 64) (hp : post (nI (ta_cn (ta_mt F G p (p + 1)) m))) : ∀ d i, i + d = m → wY_deep_5 post (nI t) (nI p) a b c mk (d + 1) (nI (ta_cn (ta_mt F G p (p + 1)) i)) (nI i)
  | 0, i, hi => by
    have hm := hT.2.1
    obtain rfl : i = m := by omega
    exact ⟨pk_in t 3 ht, pk_le i i (fun _ => hp) (fun z => absurd z (by omega)) (ta_c hT ht) rfl⟩
  | d + 1, i, hi => by
    have hm := hT.2.1
    have q := hT.2.2 i (by omega)
    have ih := ta_yd_l (mk := mk) hT ht bp hp d (i + 1) (by omega)
    have vi : vp_in (nI t * 32 + nI i) 96 := pk_in (32 * t + i) 96 (by omega) (ta_pl t i)
    refine ⟨pk_in t 3 ht, pk_le m i (fun z => absurd z (by omega)) (fun _ => ⟨vi, pk_lt p (F i) (fun z => ?_) (fun z => ⟨vi, pk_le (G i) p (fun w => ?_) (fun w => ?_) (ta_g _ (ta_pl t i) q.2.1 (by omega)) rfl⟩) rfl (ta_g _ (ta_pl t i) q.1 (by omega))⟩) (ta_c hT ht) rfl⟩
    · rw [ta_cnf (ta_mtf (by omega))] at ih
      exact nm_r (nI_1 i) ih
    · rw [ta_cnf (ta_mtf (by omega))] at ih
      exact nm_r (nI_1 i) ih
    · exact nm_r (ta_n1 (ta_mtt (by omega))) (nm_r (nI_1 i) ih)
theorem ta_yd {post : Int32 → Prop} {a b c mk : Nat → Int32} {t m p : Nat} {F G : Nat → Nat} (hT : ta_T a b c t m F G) (ht : t < 3) (bp : p < 64) (hp : post (nI (ta_cn (ta_mt F G p (p + 1)) m))) : wpY_deep post (a, b, c, mk) (nI t) (nI p) :=
  ⟨m + 1, ta_yd_l hT ht bp hp m 0 (by omega)⟩
theorem ta_ym_l {post : Int32 → Prop} {a b c mk : Nat → Int32} {t i x y e : Nat} (ht : t < 3) (hi : i < 32) (ha : a (32 * t + i) = nI x) (hb : b (32 * t + i) = nI y) (hxy : x < y) (bY : y ≤ 64) (be : e ≤ 64) : ∀ d p, p + d = e → (p < e ∧ x < e ∧ p < y → post 1) → (¬ (p < e ∧ x < e ∧ p < y) → post 0) → wY_meets_3 post (nI t) (nI i) (nI e) a b c mk (d + 1) (nI p)
  | 0, p, hd, h1, h0 => pk_le e p (fun _ => h0 (by omega)) (fun z => absurd z (by omega))
  | d + 1, p, hd, h1, h0 => by
    have vi : vp_in (nI t * 32 + nI i) 96 := pk_in (32 * t + i) 96 (by omega) (ta_pl t i)
    refine pk_le e p (fun z => absurd z (by omega)) (fun _ => ⟨vi, pk_lt p x (fun z => ?_) (fun z => ⟨vi, pk_le y p (fun w => ?_) (fun w => ?_) (ta_g _ (ta_pl t i) hb (by omega)) rfl⟩) rfl (ta_g _ (ta_pl t i) ha (by omega))⟩)
    · exact nm_r (nI_1 p) (ta_ym_l ht hi ha hb hxy bY be d (p + 1) (by omega) (fun k => h1 (by omega)) (fun k => h0 (by omega)))
    · exact nm_r (nI_1 p) (ta_ym_l ht hi ha hb hxy bY be d (p + 1) (by omega) (fun k => h1 (by omega)) (fun k => h0 (by omega)))
    · exact h1 (by omega)
theorem ta_ymeets {post : Int32 → Prop} {a b c mk : Nat → Int32} {t i s e : Nat} (x y : Nat) (ht : t < 3) (hi : i < 32) (ha : a (32 * t + i) = nI x) (hb : b (32 * t + i) = nI y) (hxy : x < y) (bY : y ≤ 64) (hse : s < e) (be : e ≤ 64) (h1 : x < e ∧ s < y → post 1) (h0 : ¬ (x < e ∧ s < y) → post 0) : wpY_meets post (a, b, c, mk) (nI t) (nI i) (nI s) (nI e) :=
  ⟨e - s + 1, ta_ym_l ht hi ha hb hxy bY be (e - s) s (by omega) (fun z => h1 (by omega)) (fun z => h0 (by omega))⟩
theorem ta_yo_l {post : Int32 → Prop} {a b c mk : Nat → Int32} {t m s e : Nat} {F G : Nat → Nat} {x : Int32} (hT : ta_T a b c t m F G) (ht : t < 3) (hse : s < e) (be : e ≤ 64) (hq : x / 65 = nI s) (hr : x - x / 65 * 65 = nI e) (hp : post (nI (ta_cn (ta_mt F G s e) m))) : ∀ d i, i + d = m → wY_overlapping_26 post (nI t) x a b c mk (d + 1) (nI (ta_cn (ta_mt F G s e) i)) (nI i)
  | 0, i, hi => by
    have hm := hT.2.1
    obtain rfl : i = m := by omega
    exact ⟨pk_in t 3 ht, pk_le i i (fun _ => hp) (fun z => absurd z (by omega)) (ta_c hT ht) rfl⟩
  | d + 1, i, hi => by
    have hm := hT.2.1
    have q := hT.2.2 i (by omega)
    have ih := ta_yo_l (mk := mk) hT ht hse be hq hr hp d (i + 1) (by omega)
    refine ⟨pk_in t 3 ht, pk_le m i (fun z => absurd z (by omega)) (fun _ => ⟨ta_65, ta_65, ?_⟩) (ta_c hT ht) rfl⟩
    rw [hr, hq]
    refine ta_ymeets (F i) (G i) ht (by omega) q.1 q.2.1 q.2.2.1 q.2.2.2 hse be (fun z => ?_) (fun z => ?_)
    · exact br_f ta_10 (nm_r (ta_n1 (ta_mtt z)) (nm_r (nI_1 i) ih))
    · rw [ta_cnf (ta_mtf z)] at ih
      exact br_t rfl (nm_r (nI_1 i) ih)
theorem ta_ybt {v : SY} {post : Int32 → Prop} {t : Nat} (ht : t < 3) (p : post 0) : wpY_badTrack post v (nI t) := by
  obtain ⟨a, b, c, mk⟩ := v
  exact br_f (nI_pos (by omega)) (br_t (nI_le (b := 2) (by omega) (by decide)) p)
theorem ta_yo {post : Int32 → Prop} {a b c mk : Nat → Int32} {t m s e : Nat} {F G : Nat → Nat} {x : Int32} (hT : ta_T a b c t m F G) (ht : t < 3) (hse : s < e) (be : e ≤ 64) (hq : x / 65 = nI s) (hr : x - x / 65 * 65 = nI e) (hb : ∀ (v : SY) (post : Int32 → Prop), post 0 → wpY_badStretch post v x) (hp : post (nI (ta_cn (ta_mt F G s e) m))) : wpY_overlapping post (a, b, c, mk) (nI t) x := by
  unfold wpY_overlapping
  dsimp only
  exact ta_ybt ht (br_t rfl (hb _ _ (br_t rfl ⟨m + 1, ta_yo_l hT ht hse be hq hr hp m 0 (by omega)⟩)))
theorem i_vc_size {k : Nat} {u : SX} {v : SY} (I : i_Rel k u v) (hk : k + 5 ≤ 2560) (v1 : Int32) : wpX_size (fun r => wpY_size (fun r' => r' = r ∧ i_Rel (k + 5) u v) v v1) u v1 := by
  obtain ⟨a, b, c⟩ := u
  obtain ⟨f, g, h, mk⟩ := v
  unfold wpX_size wpY_size
  dsimp only
  rcases ta_trk v1 with ⟨hx, hy⟩ | ⟨t, ht, rfl, hx, hy⟩
  · exact hx _ (br_t rfl (hy _ _ (br_f ta_10 ⟨rfl, i_up I⟩)))
  · obtain ⟨m, F, G, hX, hY⟩ := ta_I I ht
    exact hx _ (br_f ta_10 ⟨pk_in t 3 ht, hy _ _ (br_t rfl ⟨pk_in t 3 ht, ⟨by rw [ta_c hX ht, ta_c hY ht], i_up I⟩⟩)⟩)
theorem i_vc_stretch {k : Nat} {u : SX} {v : SY} (I : i_Rel k u v) (hk : k + 5 ≤ 2560) (v1 : Int32) (v2 : Int32) : wpX_stretch (fun r => wpY_stretch (fun r' => r' = r ∧ i_Rel (k + 5) u v) v v1 v2) u v1 v2 := by
  obtain ⟨a, b, c⟩ := u
  obtain ⟨f, g, h, mk⟩ := v
  unfold wpX_stretch wpY_stretch
  dsimp only
  rcases ta_trk v1 with ⟨hx, hy⟩ | ⟨t, ht, rfl, hx, hy⟩
  · exact hx _ (br_t rfl (hy _ _ (br_f ta_10 ⟨rfl, i_up I⟩)))
  · obtain ⟨m, F, G, hX, hY⟩ := ta_I I ht
    rcases ta_num (mk := mk) hX hY ht v2 with ⟨kx, ky⟩ | ⟨i, hi, rfl, kx, ky⟩
    · exact hx _ (br_f ta_10 (kx _ (br_t rfl (hy _ _ (br_t rfl (ky _ (br_f ta_10 ⟨rfl, i_up I⟩)))))))
    · have hm := hX.2.1
      have q := hX.2.2 i hi
      have q' := hY.2.2 i hi
      have vi : vp_in (nI t * 32 + nI i) 96 := pk_in (32 * t + i) 96 (by omega) (ta_pl t i)
      refine hx _ (br_f ta_10 (kx _ (br_f ta_10 (nm_e ⟨vi, vi, hy _ _ (br_t rfl (ky _ (br_t rfl ⟨vi, vi, ?_, i_up I⟩)))⟩))))
      rw [ta_g _ (ta_pl t i) q.1 (by omega), ta_g _ (ta_pl t i) q.2.1 (by omega), ta_g _ (ta_pl t i) q'.1 (by omega), ta_g _ (ta_pl t i) q'.2.1 (by omega)]
theorem i_vc_overlapping {k : Nat} {u : SX} {v : SY} (I : i_Rel k u v) (hk : k + 5 ≤ 2560) (v1 : Int32) (v2 : Int32) : wpX_overlapping (fun r => wpY_overlapping (fun r' => r' = r ∧ i_Rel (k + 5) u v) v v1 v2) u v1 v2 := by
  obtain ⟨a, b, c⟩ := u
  obtain ⟨f, g, h, mk⟩ := v
  rcases ta_trk v1 with ⟨hx, hy⟩ | ⟨t, ht, rfl, hx, hy⟩
  · unfold wpX_overlapping wpY_overlapping
    dsimp only
    exact hx _ (br_t rfl (hy _ _ (br_f ta_10 ⟨rfl, i_up I⟩)))
  · obtain ⟨m, F, G, hX, hY⟩ := ta_I I ht
    rcases ta_str v2 with ⟨kx, ky⟩ | ⟨s, e, hse, be, hq, hr, kx, ky⟩
    · unfold wpX_overlapping wpY_overlapping
      dsimp only
      exact hx _ (br_f ta_10 (kx _ (br_t rfl (hy _ _ (br_t rfl (ky _ _ (br_f ta_10 ⟨rfl, i_up I⟩)))))))
    · unfold wpX_overlapping
      dsimp only
      refine hx _ (br_f ta_10 (kx _ (br_f ta_10 ⟨ta_65, ta_65, ?_⟩)))
      rw [hr, hq]
      exact ta_xcm hX ht (by omega) (by omega) (ta_yo hY ht hse be hq hr ky ⟨rfl, i_up I⟩)
