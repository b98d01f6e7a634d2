/-! ===== merge, complement, join ===== -/
theorem ta_nar (x : Bool) : vp_nar .boolean (ta_01 x) = ta_01 x := by cases x <;> rfl
theorem ta_mkS {mk : Nat → Int32} {B : Nat → Bool} {p : Nat} (h : ∀ q, q < p → mk q = ta_01 (B q)) : ∀ q, q < p + 1 → upd mk p (ta_01 (B p)) q = ta_01 (B q) := by
  intro q hq
  by_cases e : q = p
  · subst e; exact pk_us
  · rw [pk_un e]; exact h q (by omega)
theorem ta_yml {post : Int32 → SY → Prop} {a b c : Nat → Int32} {t m : Nat} {F G : Nat → Nat} {B : Nat → Bool} (hT : ta_T a b c t m F G) (ht : t < 3) (hB : ∀ p, p < 64 → B p = decide (0 < ta_cn (ta_mt F G p (p + 1)) m)) (h64 : B 64 = false) (H : ∀ a' b' c' mk' : Nat → Int32, ta_F a b c a' b' c' t → ta_T a' b' c' t (ta_K B 64) (ta_S B 64) (ta_E B 64) → post (nI (ta_K B 64)) (a', b', c', mk')) : ∀ (d p : Nat) (mk : Nat → Int32), p + d = 64 → (∀ q, q < p → mk q = ta_01 (B q)) → wY_merge_12 post (nI t) (d + 1) (nI p) a b c mk
  | 0, p, w0, hd, h => by
    obtain rfl : p = 64 := by omega
    exact pk_le 64 64 (fun _ => ta_yr ht h h64 (fun a' b' c' x1 x2 => H a' b' c' w0 x1 x2)) (fun z => absurd z (by omega))
  | d + 1, p, w0, hd, h => by
    have hm := hT.2.1
    have bn := ta_cnle (ta_mt F G p (p + 1)) m
    have ih := ta_yml hT ht hB h64 H d (p + 1) _ (by omega) (ta_mkS h)
    have vp : vp_in (nI p) 64 := pk_in p 64 (by omega)
    rw [hB p (by omega)] at ih
    refine pk_le 64 p (fun z => absurd z (by omega)) (fun _ => ta_yd hT ht (by omega) (pk_le (ta_cn (ta_mt F G p (p + 1)) m) 0 (fun z => ⟨vp, fun k ek => nm_r (nI_1 p) ?_⟩) (fun z => ⟨vp, fun k ek => nm_r (nI_1 p) ?_⟩)))
    · rw [nI_clamp (by omega), show vp_nar .boolean 0 = ta_01 false from rfl] at ek
      rw [decide_eq_false (by omega)] at ih
      subst ek
      exact ih
    · rw [nI_clamp (by omega), show vp_nar .boolean 1 = ta_01 true from rfl] at ek
      rw [decide_eq_true z] at ih
      subst ek
      exact ih
theorem ta_ycm {post : Int32 → SY → Prop} {a b c : Nat → Int32} {t m : Nat} {F G : Nat → Nat} {B : Nat → Bool} (hT : ta_T a b c t m F G) (ht : t < 3) (hB : ∀ p, p < 64 → B p = !decide (0 < ta_cn (ta_mt F G p (p + 1)) m)) (h64 : B 64 = false) (H : ∀ a' b' c' mk' : Nat → Int32, ta_F a b c a' b' c' t → ta_T a' b' c' t (ta_K B 64) (ta_S B 64) (ta_E B 64) → post (nI (ta_K B 64)) (a', b', c', mk')) : ∀ (d p : Nat) (mk : Nat → Int32), p + d = 64 → (∀ q, q < p → mk q = ta_01 (B q)) → wY_complement_12 post (nI t) (d + 1) (nI p) a b c mk
  | 0, p, w0, hd, h => by
    obtain rfl : p = 64 := by omega
    exact pk_le 64 64 (fun _ => ta_yr ht h h64 (fun a' b' c' x1 x2 => H a' b' c' w0 x1 x2)) (fun z => absurd z (by omega))
  | d + 1, p, w0, hd, h => by
    have hm := hT.2.1
    have bn := ta_cnle (ta_mt F G p (p + 1)) m
    have ih := ta_ycm hT ht hB h64 H d (p + 1) _ (by omega) (ta_mkS h)
    have vp : vp_in (nI p) 64 := pk_in p 64 (by omega)
    rw [hB p (by omega)] at ih
    refine pk_le 64 p (fun z => absurd z (by omega)) (fun _ => ta_yd hT ht (by omega) (pk_eq (ta_cn (ta_mt F G p (p + 1)) m) 0 (fun z => ⟨vp, fun k ek => nm_r (nI_1 p) ?_⟩) (fun z => ⟨vp, fun k ek => nm_r (nI_1 p) ?_⟩)))
    · rw [nI_clamp (by omega), show vp_nar .boolean 1 = ta_01 (!false) from rfl] at ek
      rw [decide_eq_false (by omega)] at ih
      subst ek
      exact ih
    · rw [nI_clamp (by omega), show vp_nar .boolean 0 = ta_01 (!true) from rfl] at ek
      rw [decide_eq_true (by omega)] at ih
      subst ek
      exact ih
theorem i_vc_merge {k : Nat} {u : SX} {v : SY} (I : i_Rel k u v) (hk : k + 5 ≤ 2560) (v1 : Int32) : wpX_merge (fun r u' => wpY_merge (fun r' v' => r' = r ∧ i_Rel (k + 5) u' v') v v1) u v1 := by
  obtain ⟨a, b, c⟩ := u
  obtain ⟨f, g, h, mk⟩ := v
  unfold wpX_merge wpY_merge
  dsimp only
  rcases ta_trk v1 with ⟨hx, hy⟩ | ⟨t, ht, rfl, hx, hy⟩
  · exact hx _ (br_t rfl (hy _ _ (br_f ta_10 ⟨rfl, i_up I⟩)))
  · obtain ⟨m, F, G, hX, hY⟩ := ta_I I ht
    refine hx _ (br_f ta_10 (ta_xco hX ht (fun r hr => ta_xb ht (fun a' b' c' x1 x2 => hy _ _ (br_t rfl ⟨65, ?_⟩)))))
    exact ta_yml hY ht hr (ta_big (Nat.le_refl 64)) (fun f' g' h' mk' y1 y2 => ⟨rfl, ta_R I x1 y1 x2 y2 _⟩) 64 0 mk rfl (fun q hq => absurd hq (Nat.not_lt_zero _))
theorem i_vc_complement {k : Nat} {u : SX} {v : SY} (I : i_Rel k u v) (hk : k + 5 ≤ 2560) (v1 : Int32) : wpX_complement (fun r u' => wpY_complement (fun r' v' => r' = r ∧ i_Rel (k + 5) u' v') v v1) u v1 := by
  obtain ⟨a, b, c⟩ := u
  obtain ⟨f, g, h, mk⟩ := v
  unfold wpX_complement wpY_complement
  dsimp only
  rcases ta_trk v1 with ⟨hx, hy⟩ | ⟨t, ht, rfl, hx, hy⟩
  · exact hx _ (br_t rfl (hy _ _ (br_f ta_10 ⟨rfl, i_up I⟩)))
  · obtain ⟨m, F, G, hX, hY⟩ := ta_I I ht
    refine hx _ (br_f ta_10 (ta_xco hX ht (fun r hr => ta_xb ht (fun a' b' c' x1 x2 => hy _ _ (br_t rfl ⟨65, ?_⟩)))))
    exact ta_ycm hY ht (fun p hp => by rw [ta_not hp, hr p hp]) (ta_big (Nat.le_refl 64)) (fun f' g' h' mk' y1 y2 => ⟨rfl, ta_R I x1 y1 x2 y2 _⟩) 64 0 mk rfl (fun q hq => absurd hq (Nat.not_lt_zero _))
/-- what the four kinds join -/
def ta_op : Nat → Bool → Bool → Bool
  | 0, x, y => x && y
  | 1, x, y => x || y
  | 2, x, y => x ^^ y
  | _, x, y => x && !y
theorem ta_xj {post : Int64 → Prop} {k : Nat} (hk : k ≤ 3) {x y : Int64} (H : ∀ r : Int64, (∀ p, p < 64 → ta_bt r p = ta_op k (ta_bt x p) (ta_bt y p)) → post r) : wpX_joinedCovers post (nI k) x y := by
  unfold wpX_joinedCovers
  refine br_f (nI_pos (by omega)) ?_
  rcases (by omega : k = 0 ∨ k = 1 ∨ k = 2 ∨ k = 3) with rfl | rfl | rfl | rfl
  · exact br_f (by decide) (br_t rfl (H _ (fun p _ => ta_and x y p)))
  · exact br_f (by decide) (br_f (by decide) (br_t rfl (H _ (fun p _ => ta_or x y p))))
  · exact br_f (by decide) (br_f (by decide) (br_f (by decide) (br_t rfl (H _ (fun p _ => ta_xor x y p)))))
  · exact br_t (by decide) (H _ (fun p hp => by rw [ta_and, ta_not hp]; rfl))
theorem ta_yj {post : Int32 → SY → Prop} {J : Int32 → (Nat → Int32) → (Nat → Int32) → (Nat → Int32) → (Nat → Int32) → Prop} {a b c mk : Nat → Int32} {k p : Nat} {x2 x3 : Int32} (hk : k ≤ 3) (hp : p < 64) (A B : Bool) (h : J (nI (p + 1)) a b c (upd mk p (ta_01 (ta_op k A B)))) : wY_join_72 post J (nI k) x2 x3 (nI p) (ta_01 A) (ta_01 B) a b c mk := by
  have vp : vp_in (nI p) 64 := pk_in p 64 hp
  have st : ∀ (x : Bool) (m : Nat → Int32), m = upd mk (nI p).toNatClampNeg (vp_nar .boolean (ta_01 x)) → x = ta_op k A B → ∀ z : Int32, z = nI p + 1 → J z a b c m := by
    intro x m em ex
    refine nm_r (nI_1 p) ?_
    rw [nI_clamp (by omega), ta_nar, ex] at em
    rw [em]
    exact h
  rcases (by omega : k = 0 ∨ k = 1 ∨ k = 2 ∨ k = 3) with rfl | rfl | rfl | rfl
  · have tl : ∀ (x : Bool) (m : Nat → Int32), m = upd mk (nI p).toNatClampNeg (vp_nar .boolean (ta_01 x)) → x = ta_op 0 A B → wY_join_100 post J (nI 0) x2 x3 (nI p) (ta_01 A) (ta_01 B) a b c m := fun x m em ex => br_f (by decide) (br_f (by decide) (br_f (by decide) (st x m em ex)))
    refine br_t rfl ?_
    cases A
    · exact br_t rfl ⟨vp, fun m em => tl false m em rfl⟩
    · refine br_f ta_10 ?_
      cases B
      · exact br_t rfl ⟨vp, fun m em => tl false m em rfl⟩
      · exact br_f ta_10 ⟨vp, fun m em => tl true m em rfl⟩
  · have tl : ∀ (x : Bool) (m : Nat → Int32), m = upd mk (nI p).toNatClampNeg (vp_nar .boolean (ta_01 x)) → x = ta_op 1 A B → wY_join_127 post J (nI 1) x2 x3 (nI p) (ta_01 A) (ta_01 B) a b c m := fun x m em ex => br_f (by decide) (br_f (by decide) (st x m em ex))
    refine br_f (by decide) (br_t rfl ?_)
    cases A
    · refine br_t rfl ?_
      cases B
      · exact br_t rfl ⟨vp, fun m em => tl false m em rfl⟩
      · exact br_f ta_10 ⟨vp, fun m em => tl true m em rfl⟩
    · exact br_f ta_10 ⟨vp, fun m em => tl true m em rfl⟩
  · have tl : ∀ (x : Bool) (m : Nat → Int32), m = upd mk (nI p).toNatClampNeg (vp_nar .boolean (ta_01 x)) → x = ta_op 2 A B → wY_join_151 post J (nI 2) x2 x3 (nI p) (ta_01 A) (ta_01 B) a b c m := fun x m em ex => br_f (by decide) (st x m em ex)
    refine br_f (by decide) (br_f (by decide) (br_t rfl ?_))
    cases A <;> cases B
    · exact br_t rfl ⟨vp, fun m em => tl false m em rfl⟩
    · exact br_f (by decide) ⟨vp, fun m em => tl true m em rfl⟩
    · exact br_f (by decide) ⟨vp, fun m em => tl true m em rfl⟩
    · exact br_t rfl ⟨vp, fun m em => tl false m em rfl⟩
  · refine br_f (by decide) (br_f (by decide) (br_f (by decide) (br_t rfl ?_)))
    cases A
    · exact br_t rfl ⟨vp, fun m em => st false m em rfl⟩
    · refine br_f ta_10 ?_
      cases B
      · exact br_t rfl ⟨vp, fun m em => st true m em rfl⟩
      · exact br_f ta_10 ⟨vp, fun m em => st false m em rfl⟩
theorem ta_yj55 {post : Int32 → SY → Prop} {J : Int32 → (Nat → Int32) → (Nat → Int32) → (Nat → Int32) → (Nat → Int32) → Prop} {a b c mk : Nat → Int32} {k p w n : Nat} {P Q : Nat → Nat} {x2 : Int32} (hk : k ≤ 3) (hp : p < 64) (hW : ta_T a b c w n P Q) (hw : w < 3) (A : Bool) (h : J (nI (p + 1)) a b c (upd mk p (ta_01 (ta_op k A (decide (0 < ta_cn (ta_mt P Q p (p + 1)) n)))))) : wY_join_55 post J (nI k) x2 (nI w) (nI p) (ta_01 A) a b c mk := by
  have hn := hW.2.1
  have b2 := ta_cnle (ta_mt P Q p (p + 1)) n
  refine ta_yd hW hw hp (pk_le (ta_cn (ta_mt P Q p (p + 1)) n) 0 (fun z => ?_) (fun z => ?_))
  · rw [decide_eq_false (by omega)] at h
    exact ta_yj hk hp A false h
  · rw [decide_eq_true z] at h
    exact ta_yj hk hp A true h
theorem ta_yjl {post : Int32 → SY → Prop} {a b c : Nat → Int32} {k t m w n : Nat} {F G P Q : Nat → Nat} {B : Nat → Bool} (hk : k ≤ 3) (hT : ta_T a b c t m F G) (ht : t < 3) (hW : ta_T a b c w n P Q) (hw : w < 3) (hB : ∀ p, p < 64 → B p = ta_op k (decide (0 < ta_cn (ta_mt F G p (p + 1)) m)) (decide (0 < ta_cn (ta_mt P Q p (p + 1)) n))) (h64 : B 64 = false) (H : ∀ a' b' c' mk' : Nat → Int32, ta_F a b c a' b' c' t → ta_T a' b' c' t (ta_K B 64) (ta_S B 64) (ta_E B 64) → post (nI (ta_K B 64)) (a', b', c', mk')) : ∀ (d p : Nat) (w0 : Nat → Int32), p + d = 64 → (∀ q, q < p → w0 q = ta_01 (B q)) → wY_join_33 post (nI k) (nI t) (nI w) (d + 1) (nI p) a b c w0
  | 0, p, w0, hd, h => by
    obtain rfl : p = 64 := by omega
    exact pk_le 64 64 (fun _ => ta_yr ht h h64 (fun a' b' c' x1 x2 => H a' b' c' w0 x1 x2)) (fun z => absurd z (by omega))
  | d + 1, p, w0, hd, h => by
    have hm := hT.2.1
    have b1 := ta_cnle (ta_mt F G p (p + 1)) m
    have ih := ta_yjl hk hT ht hW hw hB h64 H d (p + 1) _ (by omega) (ta_mkS h)
    rw [hB p (by omega)] at ih
    refine pk_le 64 p (fun z => absurd z (by omega)) (fun _ => ta_yd hT ht (by omega) (pk_le (ta_cn (ta_mt F G p (p + 1)) m) 0 (fun z => ?_) (fun z => ?_)))
    · rw [decide_eq_false (show ¬ 0 < ta_cn (ta_mt F G p (p + 1)) m by omega)] at ih
      exact ta_yj55 hk (by omega) hW hw false ih
    · rw [decide_eq_true z] at ih
      exact ta_yj55 hk (by omega) hW hw true ih
theorem i_vc_join {k : Nat} {u : SX} {v : SY} (I : i_Rel k u v) (hk : k + 5 ≤ 2560) (v1 : Int32) (v2 : Int32) (v3 : Int32) : wpX_join (fun r u' => wpY_join (fun r' v' => r' = r ∧ i_Rel (k + 5) u' v') v v1 v2 v3) u v1 v2 v3 := by
  obtain ⟨a, b, c⟩ := u
  obtain ⟨f, g, h, mk⟩ := v
  unfold wpX_join wpY_join
  dsimp only
  by_cases z : v1 < 0
  · exact br_t z (br_t z ⟨rfl, i_up I⟩)
  · by_cases y : v1 ≤ 3
    · refine br_f z (br_t y ?_)
      rcases ta_trk v2 with ⟨hx, hy⟩ | ⟨t, ht, rfl, hx, hy⟩
      · exact hx _ (br_t rfl (br_f z (br_t y (hy _ _ (br_f ta_10 ⟨rfl, i_up I⟩)))))
      · rcases ta_trk v3 with ⟨kx, ky⟩ | ⟨w, hw, rfl, kx, ky⟩
        · exact hx _ (br_f ta_10 (kx _ (br_t rfl (br_f z (br_t y (hy _ _ (br_t rfl (ky _ _ (br_f ta_10 ⟨rfl, i_up I⟩)))))))))
        · obtain ⟨m, F, G, hX, hY⟩ := ta_I I ht
          obtain ⟨n, P, Q, hX2, hY2⟩ := ta_I I hw
          obtain ⟨q, hq, rfl⟩ := nI_of2 (n := 3) (by decide) z y
          refine hx _ (br_f ta_10 (kx _ (br_f ta_10 (ta_xco hX ht (fun r1 h1 => ta_xco hX2 hw (fun r2 h2 => ta_xj hq (fun r hr => ta_xb ht (fun a' b' c' x1 x2 => br_f z (br_t y (hy _ _ (br_t rfl (ky _ _ (br_t rfl ⟨65, ?_⟩)))))))))))))
          exact ta_yjl hq hY ht hY2 hw (fun p hp => by rw [hr p hp, h1 p hp, h2 p hp]) (ta_big (Nat.le_refl 64)) (fun f' g' h' mk' y1 y2 => ⟨rfl, ta_R I x1 y1 x2 y2 _⟩) 64 0 mk rfl (fun q hq => absurd hq (Nat.not_lt_zero _))
    · exact br_f z (br_f y (br_f z (br_f y ⟨rfl, i_up I⟩)))
