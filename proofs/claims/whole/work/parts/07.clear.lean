/-! ===== clear ===== -/
def ta_kp (F G : Nat → Nat) (s e i : Nat) : Bool := decide (¬ (s ≤ F i ∧ G i ≤ e))
theorem ta_kpt {F G : Nat → Nat} {s e i : Nat} (h : ¬ (s ≤ F i ∧ G i ≤ e)) : ta_kp F G s e i = true := decide_eq_true h
theorem ta_kpf {F G : Nat → Nat} {s e i : Nat} (h : s ≤ F i ∧ G i ≤ e) : ta_kp F G s e i = false := decide_eq_false (fun z => z h)
theorem ta_cnd {p : Nat → Bool} {i : Nat} : ∀ d, ta_cn p (i + d) ≤ ta_cn p i + d
  | 0 => Nat.le_refl _
  | d + 1 => by
    have h := ta_cnd (p := p) (i := i) d
    have e : i + (d + 1) = (i + d) + 1 := by omega
    rw [e]
    cases z : p (i + d)
    · rw [ta_cnf z]; omega
    · rw [ta_cnt z]; omega
theorem ta_cnm {p : Nat → Bool} {i j : Nat} (h : i ≤ j) : ta_cn p i ≤ ta_cn p j := by
  have z := ta_cnmono (p := p) (i := i) (j - i)
  rw [show i + (j - i) = j by omega] at z
  exact z
theorem ta_cnlt {p : Nat → Bool} {i j : Nat} (h : i < j) (hp : p i = true) : ta_cn p i < ta_cn p j := by
  have z := ta_cnm (p := p) (i := i + 1) (j := j) h
  rw [ta_cnt hp] at z
  omega
theorem ta_cns {p : Nat → Bool} : ∀ m l, l < ta_cn p m → ∃ j, j < m ∧ p j = true ∧ ta_cn p j = l
  | 0, l, h => absurd h (Nat.not_lt_zero _)
  | m + 1, l, h => by
    cases z : p m
    · rw [ta_cnf z] at h
      obtain ⟨j, h1, h2, h3⟩ := ta_cns m l h
      exact ⟨j, by omega, h2, h3⟩
    · rw [ta_cnt z] at h
      by_cases e : l = ta_cn p m
      · exact ⟨m, by omega, z, e.symm⟩
      · obtain ⟨j, h1, h2, h3⟩ := ta_cns (p := p) m l (by omega)
        exact ⟨j, by omega, h2, h3⟩
def ta_C (a b : Nat → Int32) (t m : Nat) (F G : Nat → Nat) (p : Nat → Bool) (i : Nat) (a1 b1 : Nat → Int32) : Prop :=
  (∀ q, (q < 32 * t ∨ 32 * t + 32 ≤ q) → a1 q = a q ∧ b1 q = b q) ∧ (∀ j, j < i → p j = true → a1 (32 * t + ta_cn p j) = nI (F j) ∧ b1 (32 * t + ta_cn p j) = nI (G j)) ∧ (∀ j, i ≤ j → j < m → a1 (32 * t + j) = nI (F j) ∧ b1 (32 * t + j) = nI (G j))
theorem ta_xcl {post : Int32 → SX → Prop} {a b c : Nat → Int32} {t m s e : Nat} {F G : Nat → Nat} (hT : ta_T a b c t m F G) (ht : t < 3) (bs : s ≤ 64) (be : e ≤ 64) (H : ∀ a' b' c' : Nat → Int32, ta_F a b c a' b' c' t → c' t = nI (ta_cn (ta_kp F G s e) m) → (∀ j, j < m → ta_kp F G s e j = true → a' (32 * t + ta_cn (ta_kp F G s e) j) = nI (F j) ∧ b' (32 * t + ta_cn (ta_kp F G s e) j) = nI (G j)) → post (nI (m - ta_cn (ta_kp F G s e) m)) (a', b', c')) : ∀ (d i : Nat) (a1 b1 : Nat → Int32), i + d = m → ta_C a b t m F G (ta_kp F G s e) i a1 b1 → wX_clear_50 post (nI t) (nI s) (nI e) (nI (32 * t)) (nI m) (d + 1) (nI (ta_cn (ta_kp F G s e) i)) (nI i) a1 b1 c
  | 0, i, a1, b1, hi, h => by
    have hm := hT.2.1
    obtain rfl : i = m := by omega
    refine pk_le i i (fun _ => ⟨pk_in t 3 ht, fun c' ec => ?_⟩) (fun z => absurd z (by omega))
    rw [nI_clamp (by omega)] at ec
    subst ec
    rw [pk_sub (ta_cnle _ i)]
    exact H a1 b1 _ ⟨fun q hq => h.1 q hq, fun x hx => pk_un hx⟩ pk_us (fun j hj hp => h.2.1 j hj hp)
  | d + 1, i, a1, b1, hi, h => by
    have hm := hT.2.1
    have q := hT.2.2 i (by omega)
    have g := h.2.2 i (Nat.le_refl i) (by omega)
    have hc := ta_cnle (ta_kp F G s e) i
    have ei : nI (32 * t) + nI i = nI (32 * t + i) := nI_add _ _
    have ek : nI (32 * t) + nI (ta_cn (ta_kp F G s e) i) = nI (32 * t + ta_cn (ta_kp F G s e) i) := nI_add _ _
    have vi : vp_in (nI (32 * t) + nI i) 96 := pk_in (32 * t + i) 96 (by omega) ei
    have vk : vp_in (nI (32 * t) + nI (ta_cn (ta_kp F G s e) i)) 96 := pk_in (32 * t + ta_cn (ta_kp F G s e) i) 96 (by omega) ek
    refine pk_le m i (fun z => absurd z (by omega)) (fun _ => ⟨vi, nm_r (ta_g _ ei g.1 (by omega)) ⟨vi, nm_r (ta_g _ ei g.2 (by omega)) ?_⟩⟩)
    have keep : ¬ (s ≤ F i ∧ G i ≤ e) → ∀ a' : Nat → Int32, a' = upd a1 (nI (32 * t) + nI (ta_cn (ta_kp F G s e) i)).toNatClampNeg (nI (F i)) → vp_in (nI (32 * t) + nI (ta_cn (ta_kp F G s e) i)) 96 ∧ ∀ b' : Nat → Int32, b' = upd b1 (nI (32 * t) + nI (ta_cn (ta_kp F G s e) i)).toNatClampNeg (nI (G i)) → ∀ x7 : Int32, x7 = nI (ta_cn (ta_kp F G s e) i) + 1 → ∀ x8 : Int32, x8 = nI i + 1 → wX_clear_50 post (nI t) (nI s) (nI e) (nI (32 * t)) (nI m) (d + 1) x7 x8 a' b' c := by
      intro z a' ea
      refine ⟨vk, fun b' eb => nm_r (ta_n1 (ta_kpt z)) (nm_r (nI_1 i) ?_)⟩
      rw [ek, nI_clamp (by omega)] at ea eb
      subst ea eb
      refine ta_xcl hT ht bs be H d (i + 1) _ _ (by omega) ⟨fun p hp => ?_, fun j hj hp => ?_, fun j h1 h2 => ?_⟩
      · rw [pk_un (by omega), pk_un (by omega)]
        exact h.1 p hp
      · by_cases w : j = i
        · subst w
          rw [pk_us, pk_us]
          exact ⟨rfl, rfl⟩
        · have lt := ta_cnlt (j := i) (by omega) hp
          rw [pk_un (by omega), pk_un (by omega)]
          exact h.2.1 j (by omega) hp
      · rw [pk_un (by omega), pk_un (by omega)]
        exact h.2.2 j (by omega) h2
    refine pk_lt (F i) s (fun z => br_t rfl ⟨vk, keep (by omega)⟩) (fun z => pk_lt e (G i) (fun w => br_t rfl ⟨vk, keep (by omega)⟩) (fun w => br_f ta_10 (nm_r (nI_1 i) ?_)))
    have ih := ta_xcl hT ht bs be H d (i + 1) a1 b1 (by omega) ⟨h.1, fun j hj hp => ?_, fun j h1 h2 => h.2.2 j (by omega) h2⟩
    · rw [ta_cnf (ta_kpf ⟨z, w⟩)] at ih
      exact ih
    · by_cases y : j = i
      · subst y
        rw [ta_kpf ⟨z, w⟩] at hp
        exact absurd hp (by decide)
      · exact h.2.1 j (by omega) hp
theorem ta_yli {post : Int32 → Prop} {a b c mk : Nat → Int32} {t i s e : Nat} {x : Int32} (X Y : Nat) (ht : t < 3) (hi : i < 32) (ha : a (32 * t + i) = nI X) (hb : b (32 * t + i) = nI Y) (bX : X ≤ 64) (bY : Y ≤ 64) (bs : s ≤ 64) (be : e ≤ 64) (hq : x / 65 = nI s) (hr : x - x / 65 * 65 = nI e) (h1 : s ≤ X ∧ Y ≤ e → post 1) (h0 : ¬ (s ≤ X ∧ Y ≤ e) → post 0) : wpY_liesIn post (a, b, c, mk) (nI t) (nI i) x := by
  have vi : vp_in (nI t * 32 + nI i) 96 := pk_in (32 * t + i) 96 (by omega) (ta_pl t i)
  exact ⟨ta_65, vi, pk_lt X s (fun z => h0 (by omega)) (fun z => ⟨vi, ta_65, pk_lt e Y (fun w => h0 (by omega)) (fun w => h1 ⟨z, w⟩) hr (ta_g _ (ta_pl t i) hb (by omega))⟩) (ta_g _ (ta_pl t i) ha (by omega)) hq⟩
theorem ta_ycl {post : Int32 → SY → Prop} {a b c mk : Nat → Int32} {t m s e : Nat} {F G : Nat → Nat} {x : Int32} (ht : t < 3) (hm : m ≤ 32) (bs : s ≤ 64) (be : e ≤ 64) (hq : x / 65 = nI s) (hr : x - x / 65 * 65 = nI e) (H : ∀ (a' b' c' : Nat → Int32) (F' G' : Nat → Nat), ta_F a b c a' b' c' t → ta_T a' b' c' t (ta_cn (ta_kp F G s e) m) F' G' → (∀ j, j < m → ta_kp F G s e j = true → F' (ta_cn (ta_kp F G s e) j) = F j ∧ G' (ta_cn (ta_kp F G s e) j) = G j) → post (nI (m - ta_cn (ta_kp F G s e) m)) (a', b', c', mk)) : ∀ (i m1 : Nat) (F1 G1 : Nat → Nat) (a1 b1 c1 : Nat → Int32), i ≤ m → ta_F a b c a1 b1 c1 t → ta_T a1 b1 c1 t m1 F1 G1 → m1 + ta_cn (ta_kp F G s e) i = i + ta_cn (ta_kp F G s e) m → (∀ j, j < i → F1 j = F j ∧ G1 j = G j) → (∀ j, i ≤ j → j < m → ta_kp F G s e j = true → F1 (i + (ta_cn (ta_kp F G s e) j - ta_cn (ta_kp F G s e) i)) = F j ∧ G1 (i + (ta_cn (ta_kp F G s e) j - ta_cn (ta_kp F G s e) i)) = G j) → wY_clear_27 post (nI t) x (i + 1) (nI (m - m1)) (nI i + (-1)) a1 b1 c1 mk
  | 0, m1, F1, G1, a1, b1, c1, hi, hF, hT, hc, hl, hg => by
    refine br_t (by decide) ?_
    have e1 : m1 = ta_cn (ta_kp F G s e) m := by
      have e0 : ta_cn (ta_kp F G s e) 0 = 0 := rfl
      omega
    subst e1
    refine H a1 b1 c1 F1 G1 hF hT (fun j hj hp => ?_)
    have z := hg j (Nat.zero_le j) hj hp
    rw [show 0 + (ta_cn (ta_kp F G s e) j - ta_cn (ta_kp F G s e) 0) = ta_cn (ta_kp F G s e) j from Nat.zero_add _] at z
    exact z
  | i + 1, m1, F1, G1, a1, b1, c1, hi, hF, hT, hc, hl, hg => by
    have hm1 := hT.2.1
    have mo := ta_cnm (p := ta_kp F G s e) (i := i + 1) (j := m) hi
    have md := ta_cnd (p := ta_kp F G s e) (i := i + 1) (m - (i + 1))
    rw [show i + 1 + (m - (i + 1)) = m by omega] at md
    have q := hT.2.2 i (by omega)
    have li := hl i (by omega)
    rw [pk_m1]
    refine br_f (nI_pos (by omega)) ⟨pk_in t 3 ht, pk_le m1 i (fun z => absurd z (by omega)) (fun _ => ?_) (ta_c hT ht) rfl⟩
    rw [li.1, li.2] at q
    refine ta_yli (F i) (G i) ht (by omega) q.1 q.2.1 (by omega) (by omega) bs be hq hr (fun z => br_f ta_10 ?_) (fun z => br_t rfl ?_)
    · have hn := ta_cnf (p := ta_kp F G s e) (i := i) (ta_kpf z)
      refine ta_ydr hT ht (by omega) (fun a' b' c' x1 x2 => nm_r (e' := nI (m - (m1 - 1))) ?_ ?_)
      · rw [nI_1]
        exact congrArg nI (by omega)
      · intro x4 e4
        subst e4
        refine ta_ycl ht hm bs be hq hr H i (m1 - 1) _ _ a' b' c' (by omega) (ta_Ft hF x1) x2 (by omega) (fun j hj => ?_) (fun j h1 h2 hp => ?_)
        · rw [ta_rm1 hj, ta_rm1 hj]
          exact hl j (by omega)
        · have nj : j ≠ i := by
            intro w
            subst w
            rw [ta_kpf z] at hp
            exact absurd hp (by decide)
          have w := hg j (by omega) h2 hp
          rw [ta_rm2 (by omega), ta_rm2 (by omega)]
          rw [hn] at w
          rw [show i + (ta_cn (ta_kp F G s e) j - ta_cn (ta_kp F G s e) i) + 1 = i + 1 + (ta_cn (ta_kp F G s e) j - ta_cn (ta_kp F G s e) i) by omega]
          exact w
    · have hn := ta_cnt (p := ta_kp F G s e) (i := i) (ta_kpt z)
      intro x4 e4
      subst e4
      refine ta_ycl ht hm bs be hq hr H i m1 F1 G1 a1 b1 c1 (by omega) hF hT (by omega) (fun j hj => hl j (by omega)) (fun j h1 h2 hp => ?_)
      by_cases y : j = i
      · subst y
        rw [show j + (ta_cn (ta_kp F G s e) j - ta_cn (ta_kp F G s e) j) = j by omega]
        exact li
      · have w := hg j (by omega) h2 hp
        have mo2 := ta_cnm (p := ta_kp F G s e) (i := i + 1) (j := j) (by omega)
        rw [show i + (ta_cn (ta_kp F G s e) j - ta_cn (ta_kp F G s e) i) = i + 1 + (ta_cn (ta_kp F G s e) j - ta_cn (ta_kp F G s e) (i + 1)) by omega]
        exact w
theorem ta_yc1 {post : Int32 → SY → Prop} {a b c mk : Nat → Int32} {t m : Nat} {F G : Nat → Nat} {x : Int32} (hT : ta_T a b c t m F G) (ht : t < 3) (H : wY_clear_27 post (nI t) x (m + 1) (nI 0) (nI m + (-1)) a b c mk) : ∀ d, m + d ≤ 32 → wY_clear_27 post (nI t) x (m + d + 1) (nI 0) (nI (m + d) + (-1)) a b c mk
  | 0, _ => H
  | d + 1, hd => by
    show wY_clear_27 post (nI t) x (m + d + 1 + 1) (nI 0) (nI (m + d + 1) + (-1)) a b c mk
    rw [pk_m1]
    exact br_f (nI_pos (by omega)) ⟨pk_in t 3 ht, pk_le m (m + d) (fun _ => nm_e (ta_yc1 hT ht H d (by omega))) (fun z => absurd z (by omega)) (ta_c hT ht) rfl⟩
theorem i_vc_clear {k : Nat} {u : SX} {v : SY} (I : i_Rel k u v) (hk : k + 5 ≤ 2560) (v1 : Int32) (v2 : Int32) : wpX_clear (fun r u' => wpY_clear (fun r' v' => r' = r ∧ i_Rel (k + 5) u' v') v v1 v2) u v1 v2 := by
  obtain ⟨a, b, c⟩ := u
  obtain ⟨f, g, h, mk⟩ := v
  unfold wpX_clear wpY_clear
  dsimp only
  rcases ta_trk v1 with ⟨hx, hy⟩ | ⟨t, ht, rfl, hx, hy⟩
  · exact hx _ (br_t rfl (hy _ _ (br_f ta_10 ⟨rfl, i_up I⟩)))
  · obtain ⟨m, F, G, hX, hY⟩ := ta_I I ht
    have hm := hX.2.1
    have vt : vp_in (nI t) 3 := pk_in t 3 ht
    rcases ta_str v2 with ⟨kx, ky⟩ | ⟨s, e, hse, be, hq, hr, kx, ky⟩
    · exact hx _ (br_f ta_10 (kx _ (br_t rfl (hy _ _ (br_t rfl (ky _ _ (br_f ta_10 ⟨rfl, i_up I⟩)))))))
    · refine hx _ (br_f ta_10 (kx _ (br_f ta_10 ⟨ta_65, nm_r hq ⟨ta_65, nm_r hr (nm_r (ta_p0 t) ⟨vt, nm_r (ta_c hX ht) ⟨m + 1, ?_⟩⟩)⟩⟩)))
      refine ta_xcl hX ht (by omega) be (fun a' b' c' x1 x2 x3 => hy _ _ (br_t rfl (ky _ _ (br_t rfl ⟨m + (32 - m) + 1, ?_⟩)))) m 0 a b (by omega) ⟨fun _ _ => ⟨rfl, rfl⟩, fun j hj => absurd hj (Nat.not_lt_zero _), fun j _ hj => ⟨(hX.2.2 j hj).1, (hX.2.2 j hj).2.1⟩⟩
      have e31 : (31 : Int32) = nI (m + (32 - m)) + (-1) := by
        rw [show m + (32 - m) = 32 by omega]
        decide
      rw [e31]
      refine ta_yc1 hY ht ?_ (32 - m) (by omega)
      have e0 : nI 0 = nI (m - m) := congrArg nI (by omega)
      rw [e0]
      refine ta_ycl (a := f) (b := g) (c := h) (F := F) (G := G) ht hm (by omega) be hq hr (fun f' g' h' F' G' y1 y2 y3 => ⟨rfl, ta_R I x1 y1 ⟨x2, y2.2.1, fun l hl => ?_⟩ y2 _⟩) m m F G f g h (Nat.le_refl m) ta_Fr hY rfl (fun _ _ => ⟨rfl, rfl⟩) (fun j h1 h2 => absurd h1 (by omega))
      obtain ⟨j, hj, hp, rfl⟩ := ta_cns m l hl
      have z := x3 j hj hp
      have w := y3 j hj hp
      rw [w.1, w.2]
      exact ⟨z.1, z.2, (hX.2.2 j hj).2.2⟩
/-! ===== copy ===== -/
def ta_P (a b : Nat → Int32) (t w i : Nat) (a1 b1 : Nat → Int32) : Prop :=
  (∀ p, (p < 32 * t ∨ 32 * t + i ≤ p) → a1 p = a p ∧ b1 p = b p) ∧ (∀ l, l < i → a1 (32 * t + l) = a (32 * w + l) ∧ b1 (32 * t + l) = b (32 * w + l))
theorem ta_P0 {a b : Nat → Int32} {t w : Nat} : ta_P a b t w 0 a b := ⟨fun _ _ => ⟨rfl, rfl⟩, fun l hl => absurd hl (Nat.not_lt_zero _)⟩
theorem ta_Ps {a b a1 b1 : Nat → Int32} {t w i : Nat} (h : ta_P a b t w i a1 b1) (hi : i < 32) : ta_P a b t w (i + 1) (upd a1 (32 * t + i) (a1 (32 * w + i))) (upd b1 (32 * t + i) (b1 (32 * w + i))) := by
  refine ⟨fun p hp => ?_, fun l hl => ?_⟩
  · rw [pk_un (by omega), pk_un (by omega)]
    exact h.1 p (by omega)
  · by_cases e : l = i
    · subst e
      rw [pk_us, pk_us]
      exact h.1 (32 * w + l) (by omega)
    · rw [pk_un (by omega), pk_un (by omega)]
      exact h.2 l (by omega)
theorem ta_Pe {a b c a1 b1 : Nat → Int32} {t w n i : Nat} {F G : Nat → Nat} (hW : ta_T a b c w n F G) (h : ta_P a b t w i a1 b1) (hi : n ≤ i) (h32 : i ≤ 32) : ta_F a b c a1 b1 (upd c t (nI n)) t ∧ ta_T a1 b1 (upd c t (nI n)) t n F G := by
  refine ⟨⟨fun p hp => h.1 p (by omega), fun x hx => pk_un hx⟩, pk_us, hW.2.1, fun l hl => ?_⟩
  have z := h.2 l (by omega)
  have q := hW.2.2 l hl
  exact ⟨z.1.trans q.1, z.2.trans q.2.1, q.2.2⟩
theorem ta_xcp {post : Int32 → SX → Prop} {a b c : Nat → Int32} {t w n : Nat} {F G : Nat → Nat} (ht : t < 3) (hw : w < 3) (hW : ta_T a b c w n F G) (H : ∀ a' b' c' : Nat → Int32, ta_F a b c a' b' c' t → ta_T a' b' c' t n F G → post (nI n) (a', b', c')) : ∀ (d i : Nat) (a1 b1 : Nat → Int32), i + d = n → ta_P a b t w i a1 b1 → wX_copy_18 post (nI t) (nI w) (d + 1) (nI i) a1 b1 c
  | 0, i, a1, b1, hi, h => by
    have hm := hW.2.1
    obtain rfl : i = n := by omega
    have vt : vp_in (nI t) 3 := pk_in t 3 ht
    have vw : vp_in (nI w) 3 := pk_in w 3 hw
    refine ⟨vw, pk_le i i (fun _ => ⟨vw, vt, fun c' ec => ⟨vt, ?_⟩⟩) (fun z => absurd z (by omega)) (ta_c hW hw) rfl⟩
    rw [ta_c hW hw, nI_clamp (by omega)] at ec
    subst ec
    have z := ta_Pe hW h (Nat.le_refl i) hm
    rw [ta_c z.2 ht]
    exact H _ _ _ z.1 z.2
  | d + 1, i, a1, b1, hi, h => by
    have hm := hW.2.1
    have vw : vp_in (nI w) 3 := pk_in w 3 hw
    have vi : vp_in (nI t * 32 + nI i) 96 := pk_in (32 * t + i) 96 (by omega) (ta_pl t i)
    have vj : vp_in (nI w * 32 + nI i) 96 := pk_in (32 * w + i) 96 (by omega) (ta_pl w i)
    refine ⟨vw, pk_le n i (fun z => absurd z (by omega)) (fun _ => ⟨vj, vi, fun a' ea => ⟨vj, vi, fun b' eb => nm_r (nI_1 i) ?_⟩⟩) (ta_c hW hw) rfl⟩
    rw [ta_pl, ta_pl, nI_clamp (by omega), nI_clamp (by omega)] at ea eb
    subst ea eb
    exact ta_xcp ht hw hW H d (i + 1) _ _ (by omega) (ta_Ps h (by omega))
theorem ta_ycp {post : Int32 → SY → Prop} {a b c mk : Nat → Int32} {t w n : Nat} {F G : Nat → Nat} (ht : t < 3) (hw : w < 3) (hW : ta_T a b c w n F G) (H : ∀ a' b' c' : Nat → Int32, ta_F a b c a' b' c' t → ta_T a' b' c' t n F G → post (nI n) (a', b', c', mk)) : ∀ (d i : Nat) (a1 b1 : Nat → Int32), i + d = 32 → ta_P a b t w i a1 b1 → wY_copy_20 post (nI t) (nI w) (d + 1) (nI i) a1 b1 c mk
  | 0, i, a1, b1, hi, h => by
    have hm := hW.2.1
    have vt : vp_in (nI t) 3 := pk_in t 3 ht
    have vw : vp_in (nI w) 3 := pk_in w 3 hw
    refine pk_le 32 i (fun _ => ⟨vw, vt, fun c' ec => ⟨vt, ?_⟩⟩) (fun z => absurd z (by omega))
    rw [ta_c hW hw, nI_clamp (by omega)] at ec
    subst ec
    have z := ta_Pe hW h (by omega) (by omega)
    rw [ta_c z.2 ht]
    exact H _ _ _ z.1 z.2
  | d + 1, i, a1, b1, hi, h => by
    have vi : vp_in (nI t * 32 + nI i) 96 := pk_in (32 * t + i) 96 (by omega) (ta_pl t i)
    have vj : vp_in (nI w * 32 + nI i) 96 := pk_in (32 * w + i) 96 (by omega) (ta_pl w i)
    refine pk_le 32 i (fun z => absurd z (by omega)) (fun _ => ⟨vj, vi, fun a' ea => ⟨vj, vi, fun b' eb => nm_r (nI_1 i) ?_⟩⟩)
    rw [ta_pl, ta_pl, nI_clamp (by omega), nI_clamp (by omega)] at ea eb
    subst ea eb
    exact ta_ycp ht hw hW H d (i + 1) _ _ (by omega) (ta_Ps h (by omega))
theorem i_vc_copy {k : Nat} {u : SX} {v : SY} (I : i_Rel k u v) (hk : k + 5 ≤ 2560) (v1 : Int32) (v2 : Int32) : wpX_copy (fun r u' => wpY_copy (fun r' v' => r' = r ∧ i_Rel (k + 5) u' v') v v1 v2) u v1 v2 := by
  obtain ⟨a, b, c⟩ := u
  obtain ⟨f, g, h, mk⟩ := v
  unfold wpX_copy wpY_copy
  dsimp only
  rcases ta_trk v1 with ⟨hx, hy⟩ | ⟨t, ht, rfl, hx, hy⟩
  · exact hx _ (br_t rfl (hy _ _ (br_f ta_10 ⟨rfl, i_up I⟩)))
  · rcases ta_trk v2 with ⟨kx, ky⟩ | ⟨w, hw, rfl, kx, ky⟩
    · exact hx _ (br_f ta_10 (kx _ (br_t rfl (hy _ _ (br_t rfl (ky _ _ (br_f ta_10 ⟨rfl, i_up I⟩)))))))
    · obtain ⟨n, F, G, hX, hY⟩ := ta_I I hw
      refine hx _ (br_f ta_10 (kx _ (br_f ta_10 ⟨n + 1, ta_xcp ht hw hX (fun a' b' c' x1 x2 => ?_) n 0 a b (by omega) ta_P0⟩)))
      exact hy _ _ (br_t rfl (ky _ _ (br_t rfl ⟨33, ta_ycp ht hw hY (fun f' g' h' y1 y2 => ⟨rfl, ta_R I x1 y1 x2 y2 _⟩) 32 0 f g rfl ta_P0⟩)))
