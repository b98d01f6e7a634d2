/-! ===== nearest, distance, meetings ===== -/
def ta_gp (x y s e : Nat) : Nat := if y ≤ s then s - y else if e ≤ x then x - e else 0
theorem ta_gp1 {x y s e : Nat} (h : y ≤ s) : ta_gp x y s e = s - y := if_pos h
theorem ta_gp2 {x y s e : Nat} (h : s < y) (h2 : e ≤ x) : ta_gp x y s e = x - e := by
  rw [ta_gp, if_neg (by omega), if_pos h2]
theorem ta_gp3 {x y s e : Nat} (h : s < y) (h2 : x < e) : ta_gp x y s e = 0 := by
  rw [ta_gp, if_neg (by omega), if_neg (by omega)]
theorem ta_gplt {x y s e : Nat} (h : x < y) (hy : y ≤ 64) (hs : s < e) (he : e ≤ 64) : ta_gp x y s e < 64 := by
  unfold ta_gp
  split
  · omega
  · split <;> omega
theorem ta_xgap {post : Int32 → Prop} {a b c : Nat → Int32} {q : Int32} (p x y s e : Nat) (hq : q = nI p) (hp : p < 96) (ha : a p = nI x) (hb : b p = nI y) (hxy : x < y) (bY : y ≤ 64) (hse : s < e) (be : e ≤ 64) (h : post (nI (ta_gp x y s e))) : wpX_gap post (a, b, c) q (nI s) (nI e) := by
  have vi : vp_in q 96 := pk_in p 96 hp hq
  refine ⟨vi, pk_lt s y (fun z => ⟨vi, pk_lt x e (fun w => ?_) (fun w => ⟨vi, ?_⟩) (ta_g p hq ha (by omega)) rfl⟩) (fun z => ⟨vi, ?_⟩) rfl (ta_g p hq hb (by omega))⟩
  · rw [ta_gp3 z w] at h
    exact h
  · rw [ta_gp2 z w] at h
    rw [ta_g p hq ha (by omega), pk_sub w]
    exact h
  · rw [ta_gp1 z] at h
    rw [ta_g p hq hb (by omega), pk_sub z]
    exact h
theorem ta_yap {post : Int32 → Prop} {a b c mk : Nat → Int32} {t i s e : Nat} (x y : Nat) (ht : t < 3) (hi : i < 32) (ha : a (32 * t + i) = nI x) (hb : b (32 * t + i) = nI y) (hxy : x < y) (bY : y ≤ 64) (hse : s < e) (be : e ≤ 64) (h : post (nI (ta_gp x y s e))) : wpY_apart post (a, b, c, mk) (nI t) (nI i) (nI s) (nI e) := by
  have vi : vp_in (nI t * 32 + nI i) 96 := pk_in (32 * t + i) 96 (by omega) (ta_pl t i)
  unfold wpY_apart
  dsimp only
  refine ta_ymeets x y ht hi ha hb hxy bY hse be (fun z => br_f ta_10 ?_) (fun z => br_t rfl ⟨vi, pk_lt s y (fun w => ⟨vi, ?_⟩) (fun w => ⟨vi, ?_⟩) rfl (ta_g _ (ta_pl t i) hb (by omega))⟩)
  · rw [ta_gp3 z.2 z.1] at h
    exact h
  · rw [ta_gp2 w (by omega)] at h
    rw [ta_g _ (ta_pl t i) ha (by omega), pk_sub (by omega)]
    exact h
  · rw [ta_gp1 w] at h
    rw [ta_g _ (ta_pl t i) hb (by omega), pk_sub w]
    exact h
theorem ta_nr_l {a b c f g h mk : Nat → Int32} {t m s e : Nat} {F G : Nat → Nat} {x : Int32} (hX : ta_T a b c t m F G) (hY : ta_T f g h t m F G) (ht : t < 3) (hse : s < e) (be : e ≤ 64) (hq : x / 65 = nI s) (hr : x - x / 65 * 65 = nI e) : ∀ d i best least, i + d = m → best < m → least ≤ 64 → ∃ j : Nat, j < m ∧ (∀ post : Int32 → Prop, post (nI j) → wX_nearest_10 post (nI t) (nI s) (nI e) a b c (d + 1) (nI best) (nI least) (nI i)) ∧ (∀ post : Int32 → Prop, post (nI j) → wY_closest_32 post (nI t) x f g h mk (d + 1) (nI best) (nI least) (nI i))
  | 0, i, best, least, hi, hb, hl => by
    have hm := hX.2.1
    obtain rfl : i = m := by omega
    exact ⟨best, hb, fun _ hp => ⟨pk_in t 3 ht, pk_le i i (fun _ => hp) (fun z => absurd z (by omega)) (ta_c hX ht) rfl⟩, fun _ hp => ⟨pk_in t 3 ht, pk_le i i (fun _ => hp) (fun z => absurd z (by omega)) (ta_c hY ht) rfl⟩⟩
  | d + 1, i, best, least, hi, hb, hl => by
    have hm := hX.2.1
    have q := hX.2.2 i (by omega)
    have q' := hY.2.2 i (by omega)
    have bg := ta_gplt q.2.2.1 q.2.2.2 hse be
    have goX : ∀ post : Int32 → Prop, (least ≤ ta_gp (F i) (G i) s e → wX_nearest_10 post (nI t) (nI s) (nI e) a b c (d + 1) (nI best) (nI least) (nI (i + 1))) → (ta_gp (F i) (G i) s e < least → wX_nearest_10 post (nI t) (nI s) (nI e) a b c (d + 1) (nI i) (nI (ta_gp (F i) (G i) s e)) (nI (i + 1))) → wX_nearest_10 post (nI t) (nI s) (nI e) a b c (d + 1 + 1) (nI best) (nI least) (nI i) := by
      intro post h1 h0
      refine ⟨pk_in t 3 ht, pk_le m i (fun z => absurd z (by omega)) (fun _ => ?_) (ta_c hX ht) rfl⟩
      exact ta_xgap (32 * t + i) (F i) (G i) s e (ta_pl t i) (by omega) q.1 q.2.1 q.2.2.1 q.2.2.2 hse be (pk_le least _ (fun z => nm_r (nI_1 i) (h1 z)) (fun z => nm_r (nI_1 i) (h0 z)))
    have goY : ∀ post : Int32 → Prop, (least ≤ ta_gp (F i) (G i) s e → wY_closest_32 post (nI t) x f g h mk (d + 1) (nI best) (nI least) (nI (i + 1))) → (ta_gp (F i) (G i) s e < least → wY_closest_32 post (nI t) x f g h mk (d + 1) (nI i) (nI (ta_gp (F i) (G i) s e)) (nI (i + 1))) → wY_closest_32 post (nI t) x f g h mk (d + 1 + 1) (nI best) (nI least) (nI i) := by
      intro post h1 h0
      refine ⟨pk_in t 3 ht, pk_le m i (fun z => absurd z (by omega)) (fun _ => ⟨ta_65, ta_65, ?_⟩) (ta_c hY ht) rfl⟩
      rw [hr, hq]
      exact ta_yap (F i) (G i) ht (by omega) q'.1 q'.2.1 q'.2.2.1 q'.2.2.2 hse be (pk_le least _ (fun z => nm_r (nI_1 i) (h1 z)) (fun z => nm_r (nI_1 i) (h0 z)))
    by_cases z : least ≤ ta_gp (F i) (G i) s e
    · obtain ⟨j, hj, h1, h2⟩ := ta_nr_l (mk := mk) hX hY ht hse be hq hr d (i + 1) best least (by omega) hb hl
      exact ⟨j, hj, fun post hp => goX post (fun _ => h1 post hp) (fun w => absurd w (by omega)), fun post hp => goY post (fun _ => h2 post hp) (fun w => absurd w (by omega))⟩
    · obtain ⟨j, hj, h1, h2⟩ := ta_nr_l (mk := mk) hX hY ht hse be hq hr d (i + 1) i (ta_gp (F i) (G i) s e) (by omega) (by omega) (by omega)
      exact ⟨j, hj, fun post hp => goX post (fun w => absurd w z) (fun _ => h1 post hp), fun post hp => goY post (fun w => absurd w z) (fun _ => h2 post hp)⟩
theorem ta_near {a b c f g h mk : Nat → Int32} {t m s e : Nat} {F G : Nat → Nat} {x : Int32} (hX : ta_T a b c t m F G) (hY : ta_T f g h t m F G) (ht : t < 3) (hse : s < e) (be : e ≤ 64) (hq : x / 65 = nI s) (hr : x - x / 65 * 65 = nI e) (h0 : 0 < m) : ∃ j : Nat, j < m ∧ (∀ post : Int32 → Prop, post (nI j) → wpX_nearest post (a, b, c) (nI t) (nI s) (nI e)) ∧ (∀ post : Int32 → Prop, post (nI j) → ∃ n, wY_closest_32 post (nI t) x f g h mk n (-3) 999 0) := by
  have hm := hX.2.1
  have q := hX.2.2 0 h0
  have q' := hY.2.2 0 h0
  have bg := ta_gplt q.2.2.1 q.2.2.2 hse be
  obtain ⟨j, hj, h1, h2⟩ := ta_nr_l (mk := mk) hX hY ht hse be hq hr (m - 1) 1 0 (ta_gp (F 0) (G 0) s e) (by omega) h0 (by omega)
  refine ⟨j, hj, fun post hp => ⟨m - 1 + 1 + 1, ⟨pk_in t 3 ht, pk_le m 0 (fun z => absurd z (by omega)) (fun _ => ?_) (ta_c hX ht) rfl⟩⟩, fun post hp => ⟨m - 1 + 1 + 1, ⟨pk_in t 3 ht, pk_le m 0 (fun z => absurd z (by omega)) (fun _ => ⟨ta_65, ta_65, ?_⟩) (ta_c hY ht) rfl⟩⟩⟩
  · exact ta_xgap (32 * t + 0) (F 0) (G 0) s e (ta_pl t 0) (by omega) q.1 q.2.1 q.2.2.1 q.2.2.2 hse be (pk_le 64 (ta_gp (F 0) (G 0) s e) (fun z => absurd z (by omega)) (fun z => nm_r (nI_1 0) (h1 post hp)))
  · rw [hr, hq]
    exact ta_yap (i := 0) (F 0) (G 0) ht (by omega) q'.1 q'.2.1 q'.2.2.1 q'.2.2.2 hse be (pk_le 999 (ta_gp (F 0) (G 0) s e) (fun z => absurd z (by omega)) (fun z => nm_r (nI_1 0) (h2 post hp)))
theorem i_vc_closest {k : Nat} {u : SX} {v : SY} (I : i_Rel k u v) (hk : k + 5 ≤ 2560) (v1 : Int32) (v2 : Int32) : wpX_closest (fun r => wpY_closest (fun r' => r' = r ∧ i_Rel (k + 5) u v) v v1 v2) u v1 v2 := by
  obtain ⟨a, b, c⟩ := u
  obtain ⟨f, g, h, mk⟩ := v
  unfold wpX_closest wpY_closest
  dsimp only
  rcases ta_trk v1 with ⟨hx, hy⟩ | ⟨t, ht, rfl, hx, hy⟩
  · exact hx _ (br_t rfl (hy _ _ (br_f ta_10 ⟨rfl, i_up I⟩)))
  · obtain ⟨m, F, G, hX, hY⟩ := ta_I I ht
    have hm := hX.2.1
    rcases ta_str v2 with ⟨kx, ky⟩ | ⟨s, e, hse, be, hq, hr, kx, ky⟩
    · exact hx _ (br_f ta_10 (kx _ (br_t rfl (hy _ _ (br_t rfl (ky _ _ (br_f ta_10 ⟨rfl, i_up I⟩)))))))
    · refine hx _ (br_f ta_10 (kx _ (br_f ta_10 ⟨pk_in t 3 ht, pk_eq m 0 (fun z => ?_) (fun z => ⟨ta_65, ta_65, ?_⟩) (ta_c hX ht) rfl⟩)))
      · exact hy _ _ (br_t rfl (ky _ _ (br_t rfl ⟨1, pk_in t 3 ht, pk_le m 0 (fun _ => ⟨rfl, i_up I⟩) (fun w => absurd w (by omega)) (ta_c hY ht) rfl⟩)))
      · obtain ⟨j, hj, h1, h2⟩ := ta_near (mk := mk) hX hY ht hse be hq hr (by omega)
        rw [hr, hq]
        exact h1 _ (hy _ _ (br_t rfl (ky _ _ (br_t rfl (h2 _ ⟨rfl, i_up I⟩)))))
theorem i_vc_distance {k : Nat} {u : SX} {v : SY} (I : i_Rel k u v) (hk : k + 5 ≤ 2560) (v1 : Int32) (v2 : Int32) : wpX_distance (fun r => wpY_distance (fun r' => r' = r ∧ i_Rel (k + 5) u v) v v1 v2) u v1 v2 := by
  obtain ⟨a, b, c⟩ := u
  obtain ⟨f, g, h, mk⟩ := v
  unfold wpX_distance wpY_distance wpY_closest
  dsimp only
  rcases ta_trk v1 with ⟨hx, hy⟩ | ⟨t, ht, rfl, hx, hy⟩
  · exact hx _ (br_t rfl (hy _ _ (br_f ta_10 (br_f (by decide) ⟨rfl, i_up I⟩))))
  · obtain ⟨m, F, G, hX, hY⟩ := ta_I I ht
    have hm := hX.2.1
    rcases ta_str v2 with ⟨kx, ky⟩ | ⟨s, e, hse, be, hq, hr, kx, ky⟩
    · exact hx _ (br_f ta_10 (kx _ (br_t rfl (hy _ _ (br_t rfl (ky _ _ (br_f ta_10 (br_f (by decide) ⟨rfl, i_up I⟩))))))))
    · refine hx _ (br_f ta_10 (kx _ (br_f ta_10 ⟨pk_in t 3 ht, pk_eq m 0 (fun z => ?_) (fun z => ⟨ta_65, nm_r hq ⟨ta_65, nm_r hr ?_⟩⟩) (ta_c hX ht) rfl⟩)))
      · exact hy _ _ (br_t rfl (ky _ _ (br_t rfl ⟨1, pk_in t 3 ht, pk_le m 0 (fun _ => br_f (by decide) ⟨rfl, i_up I⟩) (fun w => absurd w (by omega)) (ta_c hY ht) rfl⟩)))
      · obtain ⟨j, hj, h1, h2⟩ := ta_near (mk := mk) hX hY ht hse be hq hr (by omega)
        have q := hX.2.2 j hj
        have q' := hY.2.2 j hj
        refine h1 _ (ta_xgap (32 * t + j) (F j) (G j) s e (ta_pl t j) (by omega) q.1 q.2.1 q.2.2.1 q.2.2.2 hse be (hy _ _ (br_t rfl (ky _ _ (br_t rfl (h2 _ (br_t (nI_pos' (by omega)) ⟨ta_65, ta_65, ?_⟩)))))))
        rw [hr, hq]
        exact ta_yap (F j) (G j) ht (by omega) q'.1 q'.2.1 q'.2.2.1 q'.2.2.2 hse be ⟨rfl, i_up I⟩
def ta_sm (p : Nat → Nat) : Nat → Nat
  | 0 => 0
  | i + 1 => ta_sm p i + p i
theorem ta_mk {s e : Nat} (hse : s < e) (be : e ≤ 64) : nI (65 * s + e) / 65 = nI s ∧ nI (65 * s + e) - nI (65 * s + e) / 65 * 65 = nI e ∧ ∀ (v : SY) (post : Int32 → Prop), post 0 → wpY_badStretch post v (nI (65 * s + e)) := by
  have e1 : nI (65 * s + e) / 65 = nI s := (pk_div (d := 65) (by omega) (by decide) (by decide)).trans (congrArg nI (by omega))
  have e2 : nI (65 * s + e) - nI (65 * s + e) / 65 * 65 = nI e := (pk_rem (d := 65) (by omega) (by decide) (by decide)).trans (congrArg nI (by omega))
  refine ⟨e1, e2, fun ⟨_, _, _, _⟩ post p => br_f (nI_pos (by omega)) ⟨ta_65, ?_⟩⟩
  exact pk_lt 63 s (fun z => absurd z (by omega)) (fun _ => ⟨ta_65, ta_65, pk_lt s e (fun _ => p) (fun z => absurd z (by omega)) e1 e2⟩) rfl e1
theorem ta_65s (x y : Nat) : (65 : Int32) * nI x + nI y = nI (65 * x + y) := by
  show nI 65 * nI x + nI y = _
  rw [pk_mul, nI_add]
theorem ta_xmg {post : Int32 → Prop} {a b c : Nat → Int32} {t m w n : Nat} {F G P Q : Nat → Nat} (hT : ta_T a b c t m F G) (ht : t < 3) (hW : ta_T a b c w n P Q) (hw : w < 3) (hp : post (nI (ta_sm (fun i => ta_cn (ta_mt P Q (F i) (G i)) n) m))) : ∀ d i, i + d = m → wX_meetings_21 post (nI t) (nI w) a b c (d + 1) (nI (ta_sm (fun i => ta_cn (ta_mt P Q (F i) (G i)) n) i)) (nI i)
  | 0, i, hi => by
    have hm := hT.2.1
    obtain rfl : i = m := by omega
    exact ⟨pk_in t 3 ht, pk_le i i (fun _ => hp) (fun z => absurd z (by omega)) (ta_c hT ht) rfl⟩
  | d + 1, i, hi => by
    have hm := hT.2.1
    have q := hT.2.2 i (by omega)
    have ih := ta_xmg hT ht hW hw hp d (i + 1) (by omega)
    have vi : vp_in (nI (32 * t + i)) 96 := pk_in (32 * t + i) 96 (by omega)
    refine ⟨pk_in t 3 ht, pk_le m i (fun z => absurd z (by omega)) (fun _ => nm_r (ta_pl t i) ⟨vi, vi, ?_⟩) (ta_c hT ht) rfl⟩
    rw [ta_g (32 * t + i) rfl q.1 (by omega), ta_g (32 * t + i) rfl q.2.1 (by omega)]
    exact ta_xcm hW hw (by omega) (by omega) (nm_r (nI_add _ _) (nm_r (nI_1 i) ih))
theorem ta_ymg {post : Int32 → Prop} {a b c mk : Nat → Int32} {t m w n : Nat} {F G P Q : Nat → Nat} (hT : ta_T a b c t m F G) (ht : t < 3) (hW : ta_T a b c w n P Q) (hw : w < 3) (hp : post (nI (ta_sm (fun i => ta_cn (ta_mt P Q (F i) (G i)) n) m))) : ∀ d i, i + d = m → wY_meetings_23 post (nI t) (nI w) a b c mk (d + 1) (nI (ta_sm (fun i => ta_cn (ta_mt P Q (F i) (G i)) n) i)) (nI i)
  | 0, i, hi => by
    have hm := hT.2.1
    obtain rfl : i = m := by omega
    exact ⟨pk_in t 3 ht, pk_le i i (fun _ => hp) (fun z => absurd z (by omega)) (ta_c hT ht) rfl⟩
  | d + 1, i, hi => by
    have hm := hT.2.1
    have q := hT.2.2 i (by omega)
    have ih := ta_ymg (mk := mk) hT ht hW hw hp d (i + 1) (by omega)
    have vi : vp_in (nI t * 32 + nI i) 96 := pk_in (32 * t + i) 96 (by omega) (ta_pl t i)
    obtain ⟨e1, e2, e3⟩ := ta_mk q.2.2.1 q.2.2.2
    refine ⟨pk_in t 3 ht, pk_le m i (fun z => absurd z (by omega)) (fun _ => ⟨vi, vi, nm_r (e' := nI (65 * F i + G i)) ?_ ?_⟩) (ta_c hT ht) rfl⟩
    · rw [ta_g _ (ta_pl t i) q.1 (by omega), ta_g _ (ta_pl t i) q.2.1 (by omega), ta_65s]
    · exact ta_yo hW hw q.2.2.1 q.2.2.2 e1 e2 e3 (nm_r (nI_add _ _) (nm_r (nI_1 i) ih))
theorem i_vc_meetings {k : Nat} {u : SX} {v : SY} (I : i_Rel k u v) (hk : k + 5 ≤ 2560) (v1 : Int32) (v2 : Int32) : wpX_meetings (fun r => wpY_meetings (fun r' => r' = r ∧ i_Rel (k + 5) u v) v v1 v2) u v1 v2 := by
  obtain ⟨a, b, c⟩ := u
  obtain ⟨f, g, h, mk⟩ := v
  unfold wpX_meetings wpY_meetings
  dsimp only
  rcases ta_trk v1 with ⟨hx, hy⟩ | ⟨t, ht, rfl, hx, hy⟩
  · exact hx _ (br_t rfl (hy _ _ (br_f ta_10 ⟨rfl, i_up I⟩)))
  · rcases ta_trk v2 with ⟨kx, ky⟩ | ⟨w, hw, rfl, kx, ky⟩
    · exact hx _ (br_f ta_10 (kx _ (br_t rfl (hy _ _ (br_t rfl (ky _ _ (br_f ta_10 ⟨rfl, i_up I⟩)))))))
    · obtain ⟨m, F, G, hX, hY⟩ := ta_I I ht
      obtain ⟨n, P, Q, hX2, hY2⟩ := ta_I I hw
      exact hx _ (br_f ta_10 (kx _ (br_f ta_10 ⟨m + 1, ta_xmg hX ht hX2 hw (hy _ _ (br_t rfl (ky _ _ (br_t rfl ⟨m + 1, ta_ymg hY ht hY2 hw ⟨rfl, i_up I⟩ m 0 (by omega)⟩)))) m 0 (by omega)⟩)))
