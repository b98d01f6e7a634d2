/-! ===== insert ===== -/
def ta_ps (F G : Nat → Nat) (s e : Nat) : Nat → Nat
  | 0 => 0
  | j + 1 => if s < F j ∨ (s = F j ∧ G j < e) then ta_ps F G s e j else j + 1
def ta_in (F : Nat → Nat) (q s j : Nat) : Nat := if j < q then F j else if j = q then s else F (j - 1)
theorem ta_in1 {F : Nat → Nat} {q s j : Nat} (h : j < q) : ta_in F q s j = F j := if_pos h
theorem ta_in2 {F : Nat → Nat} {q s : Nat} : ta_in F q s q = s := by
  rw [ta_in, if_neg (Nat.lt_irrefl _), if_pos rfl]
theorem ta_in3 {F : Nat → Nat} {q s j : Nat} (h : q < j) : ta_in F q s j = F (j - 1) := by
  rw [ta_in, if_neg (by omega), if_neg (by omega)]
theorem ta_psle {F G : Nat → Nat} {s e : Nat} : ∀ j, ta_ps F G s e j ≤ j
  | 0 => Nat.le_refl 0
  | j + 1 => by
    have h := ta_psle (F := F) (G := G) (s := s) (e := e) j
    rw [ta_ps]
    split <;> omega
/-- the stretches from j on have moved one place up -/
def ta_M (a b : Nat → Int32) (t m : Nat) (F G : Nat → Nat) (j : Nat) (a1 b1 : Nat → Int32) : Prop :=
  (∀ p, (p < 32 * t ∨ 32 * t + 32 ≤ p) → a1 p = a p ∧ b1 p = b p) ∧ (∀ i, i < j → a1 (32 * t + i) = nI (F i) ∧ b1 (32 * t + i) = nI (G i)) ∧ (∀ i, j < i → i ≤ m → a1 (32 * t + i) = nI (F (i - 1)) ∧ b1 (32 * t + i) = nI (G (i - 1)))
theorem ta_M0 {a b c : Nat → Int32} {t m : Nat} {F G : Nat → Nat} (hT : ta_T a b c t m F G) : ta_M a b t m F G m a b :=
  ⟨fun _ _ => ⟨rfl, rfl⟩, fun i hi => ⟨(hT.2.2 i hi).1, (hT.2.2 i hi).2.1⟩, fun i h1 h2 => absurd h1 (by omega)⟩
theorem ta_Ms {a b a1 b1 : Nat → Int32} {t m j : Nat} {F G : Nat → Nat} (h : ta_M a b t m F G (j + 1) a1 b1) (hj : j + 1 ≤ m) (hm : m < 32) : ta_M a b t m F G j (upd a1 (32 * t + (j + 1)) (a1 (32 * t + j))) (upd b1 (32 * t + (j + 1)) (b1 (32 * t + j))) := by
  refine ⟨fun p hp => ?_, fun i hi => ?_, fun i h1 h2 => ?_⟩
  · rw [pk_un (by omega), pk_un (by omega)]
    exact h.1 p hp
  · rw [pk_un (by omega), pk_un (by omega)]
    exact h.2.1 i (by omega)
  · by_cases e : i = j + 1
    · subst e
      rw [pk_us, pk_us]
      exact h.2.1 j (by omega)
    · rw [pk_un (by omega), pk_un (by omega)]
      exact h.2.2 i (by omega) h2
theorem ta_Me {a b c a1 b1 : Nat → Int32} {t m j s e : Nat} {F G : Nat → Nat} (hT : ta_T a b c t m F G) (h : ta_M a b t m F G j a1 b1) (hj : j ≤ m) (hm : m < 32) (hse : s < e) (be : e ≤ 64) : ta_F a b c (upd a1 (32 * t + j) (nI s)) (upd b1 (32 * t + j) (nI e)) (upd c t (nI (m + 1))) t ∧ ta_T (upd a1 (32 * t + j) (nI s)) (upd b1 (32 * t + j) (nI e)) (upd c t (nI (m + 1))) t (m + 1) (ta_in F j s) (ta_in G j e) := by
  refine ⟨⟨fun p hp => ?_, fun x hx => pk_un hx⟩, pk_us, hm, fun i hi => ?_⟩
  · rw [pk_un (by omega), pk_un (by omega)]
    exact h.1 p hp
  · rcases Nat.lt_trichotomy i j with z | z | z
    · have q := hT.2.2 i (by omega)
      rw [pk_un (by omega), pk_un (by omega), ta_in1 z, ta_in1 z]
      exact ⟨(h.2.1 i z).1, (h.2.1 i z).2, q.2.2⟩
    · subst z
      rw [pk_us, pk_us, ta_in2, ta_in2]
      exact ⟨rfl, rfl, hse, be⟩
    · have q := hT.2.2 (i - 1) (by omega)
      rw [pk_un (by omega), pk_un (by omega), ta_in3 z, ta_in3 z]
      exact ⟨(h.2.2 i z (by omega)).1, (h.2.2 i z (by omega)).2, q.2.2⟩
theorem ta_xcb {post : Int32 → Prop} {a b c : Nat → Int32} {q : Int32} (p x y s e : Nat) (hq : q = nI p) (hp : p < 96) (ha : a p = nI x) (hb : b p = nI y) (bx : x ≤ 64) (bY : y ≤ 64) (bs : s ≤ 64) (be : e ≤ 64) (h1 : s < x ∨ (s = x ∧ y < e) → post 1) (h0 : ¬ (s < x ∨ (s = x ∧ y < e)) → post 0) : wpX_comesBefore post (a, b, c) (nI s) (nI e) q := by
  have vi : vp_in q 96 := pk_in p 96 hp hq
  exact ⟨vi, pk_lt s x (fun z => h1 (Or.inl z)) (fun z => ⟨vi, pk_eq s x (fun w => ⟨vi, pk_le e y (fun k => h0 (by omega)) (fun k => h1 (by omega)) rfl (ta_g p hq hb (by omega))⟩) (fun w => h0 (by omega)) rfl (ta_g p hq ha (by omega))⟩) rfl (ta_g p hq ha (by omega))⟩
theorem ta_m1 {n : Nat} (h : 0 < n) : nI n - 1 = nI (n - 1) := by
  obtain ⟨k, rfl⟩ : ∃ k, n = k + 1 := ⟨n - 1, by omega⟩
  exact nI_pred k
theorem ta_m2 {n : Nat} (h : 0 < n) : nI n + (-1) = nI (n - 1) := by
  obtain ⟨k, rfl⟩ : ∃ k, n = k + 1 := ⟨n - 1, by omega⟩
  exact pk_m1 k
theorem ta_xe {post : SX → Prop} {a b c a1 b1 : Nat → Int32} {t m j s e : Nat} {F G : Nat → Nat} (hT : ta_T a b c t m F G) (ht : t < 3) (h : ta_M a b t m F G j a1 b1) (hj : j ≤ m) (hm : m < 32) (hse : s < e) (be : e ≤ 64) (H : ∀ a' b' c' : Nat → Int32, ta_F a b c a' b' c' t → ta_T a' b' c' t (m + 1) (ta_in F j s) (ta_in G j e) → post (a', b', c')) : wX_insert_75 post (nI t) (nI s) (nI e) (nI (32 * t + j)) a1 b1 c := by
  have vi : vp_in (nI (32 * t + j)) 96 := pk_in (32 * t + j) 96 (by omega)
  have vt : vp_in (nI t) 3 := pk_in t 3 ht
  refine ⟨vi, fun a' ea => ⟨vi, fun b' eb => ⟨vt, vt, fun c' ec => ?_⟩⟩⟩
  rw [nI_clamp (by omega)] at ea eb
  rw [ta_c hT ht, nI_1, nI_clamp (by omega)] at ec
  subst ea eb ec
  have z := ta_Me hT h hj hm hse be
  exact H _ _ _ z.1 z.2
theorem ta_xil {post : SX → Prop} {a b c : Nat → Int32} {t m s e q : Nat} {F G : Nat → Nat} (hT : ta_T a b c t m F G) (ht : t < 3) (hm : m < 32) (hse : s < e) (be : e ≤ 64) (H : ∀ a' b' c' : Nat → Int32, ta_F a b c a' b' c' t → ta_T a' b' c' t (m + 1) (ta_in F q s) (ta_in G q e) → post (a', b', c')) : ∀ (j : Nat) (a1 b1 : Nat → Int32), j ≤ m → ta_M a b t m F G j a1 b1 → ta_ps F G s e j = q → wX_insert_17 post (nI t) (nI s) (nI e) (nI (32 * t)) (j + 1) (nI (32 * t + j)) a1 b1 c
  | 0, a1, b1, hj, h, hq => by
    subst hq
    exact pk_le (32 * t + 0) (32 * t) (fun _ => ta_xe hT ht h hj hm hse be H) (fun z => absurd z (by omega))
  | j + 1, a1, b1, hj, h, hq => by
    have g := h.2.1 j (by omega)
    have q0 := hT.2.2 j (by omega)
    have ei : nI (32 * t + (j + 1)) - 1 = nI (32 * t + j) := nI_pred (32 * t + j)
    have vi : vp_in (nI (32 * t + (j + 1)) - 1) 96 := pk_in (32 * t + j) 96 (by omega) ei
    have vj : vp_in (nI (32 * t + (j + 1))) 96 := pk_in (32 * t + (j + 1)) 96 (by omega)
    rw [ta_ps] at hq
    refine pk_le (32 * t + (j + 1)) (32 * t) (fun z => absurd z (by omega)) (fun _ => ?_)
    refine ta_xcb (32 * t + j) (F j) (G j) s e ei (by omega) g.1 g.2 (by omega) (by omega) (by omega) (by omega) (fun z => br_f ta_10 ?_) (fun z => br_t rfl ?_)
    · rw [if_pos z] at hq
      refine ⟨vi, vj, fun a' ea => ⟨vi, vj, fun b' eb => nm_r (pk_m1 (32 * t + j)) ?_⟩⟩
      rw [ei, nI_clamp (by omega), nI_clamp (by omega)] at ea eb
      subst ea eb
      exact ta_xil hT ht hm hse be H j _ _ (by omega) (ta_Ms h hj hm) hq
    · rw [if_neg z] at hq
      subst hq
      exact ta_xe hT ht h hj hm hse be H
theorem ta_xi {post : SX → Prop} {a b c : Nat → Int32} {t m s e : Nat} {F G : Nat → Nat} (hT : ta_T a b c t m F G) (ht : t < 3) (hm : m < 32) (hse : s < e) (be : e ≤ 64) (H : ∀ a' b' c' : Nat → Int32, ta_F a b c a' b' c' t → ta_T a' b' c' t (m + 1) (ta_in F (ta_ps F G s e m) s) (ta_in G (ta_ps F G s e m) e) → post (a', b', c')) : wpX_insert post (a, b, c) (nI t) (nI s) (nI e) := by
  refine nm_r (ta_p0 t) ⟨pk_in t 3 ht, nm_r (e' := nI (32 * t + m)) ?_ ⟨m + 1, ?_⟩⟩
  · rw [ta_c hT ht, nI_add]
  · exact ta_xil hT ht hm hse be H m a b (Nat.le_refl m) (ta_M0 hT) rfl
theorem ta_ye {post : SY → Prop} {a b c mk a1 b1 : Nat → Int32} {t m j s e : Nat} {F G : Nat → Nat} (hT : ta_T a b c t m F G) (ht : t < 3) (h : ta_M a b t m F G j a1 b1) (hj : j ≤ m) (hm : m < 32) (hse : s < e) (be : e ≤ 64) (H : ∀ a' b' c' : Nat → Int32, ta_F a b c a' b' c' t → ta_T a' b' c' t (m + 1) (ta_in F j s) (ta_in G j e) → post (a', b', c', mk)) : wY_insert_98 post (nI t) (nI s) (nI e) (nI j) a1 b1 c mk := by
  have vi : vp_in (nI t * 32 + nI j) 96 := pk_in (32 * t + j) 96 (by omega) (ta_pl t j)
  have vt : vp_in (nI t) 3 := pk_in t 3 ht
  refine ⟨vi, fun a' ea => ⟨vi, fun b' eb => ⟨vt, vt, fun c' ec => ?_⟩⟩⟩
  rw [ta_pl, nI_clamp (by omega)] at ea eb
  rw [ta_c hT ht, nI_1, nI_clamp (by omega)] at ec
  subst ea eb ec
  have z := ta_Me hT h hj hm hse be
  exact H _ _ _ z.1 z.2
theorem ta_yil {post : SY → Prop} {a b c mk : Nat → Int32} {t m s e q : Nat} {F G : Nat → Nat} (hT : ta_T a b c t m F G) (ht : t < 3) (hm : m < 32) (hse : s < e) (be : e ≤ 64) (H : ∀ a' b' c' : Nat → Int32, ta_F a b c a' b' c' t → ta_T a' b' c' t (m + 1) (ta_in F q s) (ta_in G q e) → post (a', b', c', mk)) : ∀ (j : Nat) (a1 b1 : Nat → Int32), j ≤ m → ta_M a b t m F G j a1 b1 → ta_ps F G s e j = q → wY_insert_8 post (nI t) (nI s) (nI e) (j + 1) (nI j) a1 b1 c mk
  | 0, a1, b1, hj, h, hq => by
    subst hq
    exact pk_le 0 0 (fun _ => ta_ye hT ht h hj hm hse be H) (fun z => absurd z (by omega))
  | j + 1, a1, b1, hj, h, hq => by
    have g := h.2.1 j (by omega)
    have q0 := hT.2.2 j (by omega)
    have ei : nI t * 32 + nI (j + 1) - 1 = nI (32 * t + j) := by rw [ta_pl]; exact nI_pred (32 * t + j)
    have vi : vp_in (nI (32 * t + j)) 96 := pk_in (32 * t + j) 96 (by omega)
    have vj : vp_in (nI (32 * t + j) + 1) 96 := pk_in (32 * t + (j + 1)) 96 (by omega) (nI_1 _)
    have go : ta_ps F G s e j = q → wY_insert_60 post (wY_insert_8 post (nI t) (nI s) (nI e) (j + 1)) (nI t) (nI s) (nI e) (nI (j + 1)) (nI (32 * t + j)) a1 b1 c mk := by
      intro hq
      refine ⟨vi, vj, fun a' ea => ⟨vi, vj, fun b' eb => nm_r (pk_m1 j) ?_⟩⟩
      rw [nI_1, nI_clamp (by omega), nI_clamp (by omega)] at ea eb
      subst ea eb
      exact ta_yil hT ht hm hse be H j _ _ (by omega) (ta_Ms h hj hm) hq
    have stop : j + 1 = q → wY_insert_98 post (nI t) (nI s) (nI e) (nI (j + 1)) a1 b1 c mk := by
      intro hq
      subst hq
      exact ta_ye hT ht h hj hm hse be H
    rw [ta_ps] at hq
    refine pk_le (j + 1) 0 (fun z => absurd z (by omega)) (fun _ => nm_r ei ⟨vi, pk_lt (F j) s (fun z => ?_) (fun z => ⟨vi, pk_eq (F j) s (fun w => ⟨vi, pk_lt (G j) e (fun y => ?_) (fun y => ?_) (ta_g _ rfl g.2 (by omega)) rfl⟩) (fun w => ?_) (ta_g _ rfl g.1 (by omega)) rfl⟩) (ta_g _ rfl g.1 (by omega)) rfl⟩)
    · rw [if_neg (by omega)] at hq
      exact stop hq
    · rw [if_pos (by omega)] at hq
      exact go hq
    · rw [if_neg (by omega)] at hq
      exact stop hq
    · rw [if_pos (by omega)] at hq
      exact go hq
theorem ta_yi {post : SY → Prop} {a b c mk : Nat → Int32} {t m s e : Nat} {F G : Nat → Nat} (hT : ta_T a b c t m F G) (ht : t < 3) (hm : m < 32) (hse : s < e) (be : e ≤ 64) (H : ∀ a' b' c' : Nat → Int32, ta_F a b c a' b' c' t → ta_T a' b' c' t (m + 1) (ta_in F (ta_ps F G s e m) s) (ta_in G (ta_ps F G s e m) e) → post (a', b', c', mk)) : wpY_insert post (a, b, c, mk) (nI t) (nI s) (nI e) :=
  ⟨pk_in t 3 ht, nm_r (ta_c hT ht) ⟨m + 1, ta_yil hT ht hm hse be H m a b (Nat.le_refl m) (ta_M0 hT) rfl⟩⟩
theorem i_vc_add {k : Nat} {u : SX} {v : SY} (I : i_Rel k u v) (hk : k + 5 ≤ 2560) (v1 : Int32) (v2 : Int32) : wpX_add (fun r u' => wpY_add (fun r' v' => r' = r ∧ i_Rel (k + 5) u' v') v v1 v2) u v1 v2 := by
  obtain ⟨a, b, c⟩ := u
  obtain ⟨f, g, h, mk⟩ := v
  unfold wpX_add wpY_add
  dsimp only
  rcases ta_trk v1 with ⟨hx, hy⟩ | ⟨t, ht, rfl, hx, hy⟩
  · exact hx _ (br_t rfl (hy _ _ (br_f ta_10 ⟨rfl, i_up I⟩)))
  · obtain ⟨m, F, G, hX, hY⟩ := ta_I I ht
    have hm := hX.2.1
    have vt : vp_in (nI t) 3 := pk_in t 3 ht
    rcases ta_str v2 with ⟨kx, ky⟩ | ⟨s, e, hse, be, hq, hr, kx, ky⟩
    · exact hx _ (br_f ta_10 (kx _ (br_t rfl (hy _ _ (br_t rfl (ky _ _ (br_f ta_10 ⟨rfl, i_up I⟩)))))))
    · refine hx _ (br_f ta_10 (kx _ (br_f ta_10 ⟨vt, pk_lt m 32 (fun z => ⟨ta_65, ta_65, ?_⟩) (fun z => ?_) (ta_c hX ht) rfl⟩)))
      · rw [hr, hq]
        refine ta_xi hX ht z hse be (fun a' b' c' x1 x2 => ⟨vt, hy _ _ (br_t rfl (ky _ _ (br_t rfl ⟨vt, pk_lt m 32 (fun _ => ⟨ta_65, ta_65, ?_⟩) (fun w => absurd w (by omega)) (ta_c hY ht) rfl⟩)))⟩)
        exact ta_yi hY ht z hse be (fun f' g' h' y1 y2 => ⟨vt, (ta_c y2 ht).trans (ta_c x2 ht).symm, ta_R I x1 y1 x2 y2 _⟩)
      · exact hy _ _ (br_t rfl (ky _ _ (br_t rfl ⟨vt, pk_lt m 32 (fun w => absurd w (by omega)) (fun _ => ⟨rfl, i_up I⟩) (ta_c hY ht) rfl⟩)))
