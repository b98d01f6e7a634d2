/-! ===== the runs of a set of positions ===== -/
def ta_ib (B : Nat → Bool) : Nat → Bool
  | 0 => false
  | p + 1 => B p
def ta_K (B : Nat → Bool) : Nat → Nat
  | 0 => 0
  | p + 1 => bif B p && !ta_ib B p then ta_K B p + 1 else ta_K B p
def ta_S (B : Nat → Bool) : Nat → Nat → Nat
  | 0, _ => 0
  | p + 1, j => bif B p && !ta_ib B p && decide (j = ta_K B p) then p else ta_S B p j
def ta_E (B : Nat → Bool) : Nat → Nat → Nat
  | 0, _ => 0
  | p + 1, j => bif B p && decide (j + 1 = ta_K B (p + 1)) then p + 1 else ta_E B p j
theorem ta_Kn {B : Nat → Bool} {p : Nat} (h : B p = true) (hi : ta_ib B p = false) : ta_K B (p + 1) = ta_K B p + 1 := by
  rw [ta_K, h, hi]; rfl
theorem ta_Kc {B : Nat → Bool} {p : Nat} (h : B p = true) (hi : ta_ib B p = true) : ta_K B (p + 1) = ta_K B p := by
  rw [ta_K, h, hi]; rfl
theorem ta_Ko {B : Nat → Bool} {p : Nat} (h : B p = false) : ta_K B (p + 1) = ta_K B p := by
  rw [ta_K, h]; rfl
theorem ta_Sn {B : Nat → Bool} {p : Nat} (h : B p = true) (hi : ta_ib B p = false) : ta_S B (p + 1) (ta_K B p) = p := by
  rw [ta_S, h, hi, decide_eq_true rfl]; rfl
theorem ta_Sm {B : Nat → Bool} {p j : Nat} (h : j < ta_K B p) : ta_S B (p + 1) j = ta_S B p j := by
  rw [ta_S, decide_eq_false (by omega), Bool.and_false]; rfl
theorem ta_Sc {B : Nat → Bool} {p j : Nat} (hi : ta_ib B p = true) : ta_S B (p + 1) j = ta_S B p j := by
  rw [ta_S, hi]; simp
theorem ta_So {B : Nat → Bool} {p j : Nat} (h : B p = false) : ta_S B (p + 1) j = ta_S B p j := by
  rw [ta_S, h]; rfl
theorem ta_El {B : Nat → Bool} {p j : Nat} (h : B p = true) (hj : j + 1 = ta_K B (p + 1)) : ta_E B (p + 1) j = p + 1 := by
  rw [ta_E, h, decide_eq_true hj]; rfl
theorem ta_Em {B : Nat → Bool} {p j : Nat} (hj : j + 1 ≠ ta_K B (p + 1)) : ta_E B (p + 1) j = ta_E B p j := by
  rw [ta_E, decide_eq_false hj, Bool.and_false]; rfl
theorem ta_Eo {B : Nat → Bool} {p j : Nat} (h : B p = false) : ta_E B (p + 1) j = ta_E B p j := by
  rw [ta_E, h]; rfl
def ta_Q (B : Nat → Bool) (p : Nat) : Prop :=
  (ta_ib B p = true → 1 ≤ ta_K B p ∧ 2 * ta_K B p ≤ p + 1 ∧ ta_E B p (ta_K B p - 1) = p) ∧ (ta_ib B p = false → 2 * ta_K B p ≤ p) ∧ (∀ j, j < ta_K B p → ta_S B p j < ta_E B p j ∧ ta_E B p j ≤ p) ∧ (∀ j, j + 1 < ta_K B p → ta_S B p j < ta_S B p (j + 1))
theorem ta_Qp (B : Nat → Bool) : ∀ p, ta_Q B p
  | 0 => ⟨fun h => absurd (show false = true from h) (by decide), fun _ => Nat.le_refl _, fun j h => absurd h (Nat.not_lt_zero _), fun j h => absurd h (Nat.not_lt_zero _)⟩
  | p + 1 => by
    obtain ⟨h1, h2, h3, h4⟩ := ta_Qp B p
    cases hB : B p
    · have hi : ta_ib B (p + 1) = false := hB
      have hK := ta_Ko hB
      refine ⟨fun z => absurd (hi.symm.trans z) (by decide), fun _ => ?_, fun j hj => ?_, fun j hj => ?_⟩
      · rw [hK]
        cases z : ta_ib B p
        · have := h2 z; omega
        · have := (h1 z).2.1; omega
      · rw [hK] at hj
        rw [ta_So hB, ta_Eo hB]
        have := h3 j hj
        omega
      · rw [hK] at hj
        rw [ta_So hB, ta_So hB]
        exact h4 j hj
    · have hi : ta_ib B (p + 1) = true := hB
      cases z : ta_ib B p
      · have hK := ta_Kn hB z
        have b := h2 z
        refine ⟨fun _ => ⟨by omega, by omega, ?_⟩, fun w => absurd (hi.symm.trans w) (by decide), fun j hj => ?_, fun j hj => ?_⟩
        · exact ta_El hB (by omega)
        · by_cases e : j = ta_K B p
          · subst e
            rw [ta_Sn hB z, ta_El hB hK.symm]
            omega
          · rw [ta_Sm (by omega), ta_Em (by omega)]
            have := h3 j (by omega)
            omega
        · by_cases e : j + 1 = ta_K B p
          · have := h3 j (by omega)
            rw [ta_Sm (by omega), e, ta_Sn hB z]
            omega
          · rw [ta_Sm (by omega), ta_Sm (by omega)]
            exact h4 j (by omega)
      · have hK := ta_Kc hB z
        have b := h1 z
        refine ⟨fun _ => ⟨by omega, by omega, ?_⟩, fun w => absurd (hi.symm.trans w) (by decide), fun j hj => ?_, fun j hj => ?_⟩
        · exact ta_El hB (by omega)
        · have := h3 j (by omega)
          by_cases e : j + 1 = ta_K B (p + 1)
          · rw [ta_Sc z, ta_El hB e]
            omega
          · rw [ta_Sc z, ta_Em e]
            omega
        · rw [ta_Sc z, ta_Sc z]
          exact h4 j (by omega)
/-! the component's walk -/
def ta_W (a b : Nat → Int32) (t : Nat) (B : Nat → Bool) (p : Nat) (a1 b1 : Nat → Int32) : Prop :=
  (∀ q, (q < 32 * t ∨ 32 * t + 32 ≤ q) → a1 q = a q ∧ b1 q = b q) ∧ (∀ j, j < ta_K B p → a1 (32 * t + j) = nI (ta_S B p j) ∧ b1 (32 * t + j) = nI (ta_E B p j))
theorem ta_Wo {a b a1 b1 : Nat → Int32} {t p : Nat} {B : Nat → Bool} (h : ta_W a b t B p a1 b1) (hB : B p = false) : ta_W a b t B (p + 1) a1 b1 := by
  refine ⟨h.1, fun j hj => ?_⟩
  rw [ta_Ko hB] at hj
  rw [ta_So hB, ta_Eo hB]
  exact h.2 j hj
theorem ta_Wc {a b a1 b1 : Nat → Int32} {t p : Nat} {B : Nat → Bool} (h : ta_W a b t B p a1 b1) (hB : B p = true) (hi : ta_ib B p = true) (hp : p < 64) : ta_W a b t B (p + 1) a1 (upd b1 (32 * t + ta_K B p - 1) (nI (p + 1))) := by
  have q := (ta_Qp B p).1 hi
  have hK := ta_Kc hB hi
  refine ⟨fun x hx => ?_, fun j hj => ?_⟩
  · rw [pk_un (by omega)]
    exact h.1 x hx
  · rw [ta_Sc hi]
    by_cases e : j + 1 = ta_K B (p + 1)
    · rw [ta_El hB e, show 32 * t + ta_K B p - 1 = 32 * t + j by omega, pk_us]
      exact ⟨(h.2 j (by omega)).1, rfl⟩
    · rw [ta_Em e, pk_un (by omega)]
      exact h.2 j (by omega)
theorem ta_Wn {a b a1 b1 : Nat → Int32} {t p : Nat} {B : Nat → Bool} (h : ta_W a b t B p a1 b1) (hB : B p = true) (hi : ta_ib B p = false) (hp : p < 64) : ta_W a b t B (p + 1) (upd a1 (32 * t + ta_K B p) (nI p)) (upd b1 (32 * t + ta_K B p) (nI (p + 1))) := by
  have q := (ta_Qp B p).2.1 hi
  have hK := ta_Kn hB hi
  refine ⟨fun x hx => ?_, fun j hj => ?_⟩
  · rw [pk_un (by omega), pk_un (by omega)]
    exact h.1 x hx
  · by_cases e : j = ta_K B p
    · subst e
      rw [ta_Sn hB hi, ta_El hB hK.symm, pk_us, pk_us]
      exact ⟨rfl, rfl⟩
    · rw [ta_Sm (by omega), ta_Em (by omega), pk_un (by omega), pk_un (by omega)]
      exact h.2 j (by omega)
def ta_01 (x : Bool) : Int32 := bif x then 1 else 0
theorem ta_xbl {post : Int32 → SX → Prop} {a b c : Nat → Int32} {t : Nat} {x : Int64} (ht : t < 3) (H : ∀ a' b' c' : Nat → Int32, ta_F a b c a' b' c' t → ta_T a' b' c' t (ta_K (ta_bt x) 64) (ta_S (ta_bt x) 64) (ta_E (ta_bt x) 64) → post (nI (ta_K (ta_bt x) 64)) (a', b', c')) : ∀ (d p : Nat) (a1 b1 : Nat → Int32), p + d = 64 → ta_W a b t (ta_bt x) p a1 b1 → wX_becomeRuns_14 post (nI t) x (d + 1) (nI (32 * t + ta_K (ta_bt x) p) - 1) (ta_01 (ta_ib (ta_bt x) p)) (nI p) a1 b1 c
  | 0, p, a1, b1, hd, h => by
    obtain rfl : p = 64 := by omega
    have vt : vp_in (nI t) 3 := pk_in t 3 ht
    have q := ta_Qp (ta_bt x) 64
    have bK : ta_K (ta_bt x) 64 ≤ 32 := by
      cases z : ta_ib (ta_bt x) 64
      · have := q.2.1 z; omega
      · have := (q.1 z).2.1; omega
    refine pk_le 64 64 (fun _ => ⟨vt, fun c' ec => ⟨vt, ?_⟩⟩) (fun z => absurd z (by omega))
    rw [Int32.sub_add_cancel, ta_p0, pk_sub (by omega), nI_clamp (by omega), Nat.add_sub_cancel_left] at ec
    subst ec
    have hT : ta_T a1 b1 (upd c t (nI (ta_K (ta_bt x) 64))) t (ta_K (ta_bt x) 64) (ta_S (ta_bt x) 64) (ta_E (ta_bt x) 64) :=
      ⟨pk_us, bK, fun i hi => ⟨(h.2 i hi).1, (h.2 i hi).2, q.2.2.1 i hi⟩⟩
    rw [ta_c hT ht]
    exact H _ _ _ ⟨h.1, fun s hs => pk_un hs⟩ hT
  | d + 1, p, a1, b1, hd, h => by
    have q := ta_Qp (ta_bt x) p
    refine pk_le 64 p (fun z => absurd z (by omega)) (fun _ => ta_xin (by omega) (fun hB => br_f ta_10 ?_) (fun hB => br_t rfl ?_))
    · cases hi : ta_ib (ta_bt x) p
      · have b := q.2.1 hi
        have hK := ta_Kn hB hi
        have ih := ta_xbl ht H d (p + 1) _ _ (by omega) (ta_Wn h hB hi (by omega))
        have e5 : ta_01 (ta_ib (ta_bt x) (p + 1)) = 1 := congrArg ta_01 hB
        have e4 : nI (32 * t + ta_K (ta_bt x) (p + 1)) - 1 = nI (32 * t + ta_K (ta_bt x) p) := by
          rw [hK]; exact nI_pred _
        rw [e4, e5] at ih
        have vp : vp_in (nI (32 * t + ta_K (ta_bt x) p)) 96 := pk_in (32 * t + ta_K (ta_bt x) p) 96 (by omega)
        refine br_t rfl (nm_r (Int32.sub_add_cancel _ _) ⟨vp, fun a' ea => br_f ta_10 ⟨vp, fun b' eb => nm_r (nI_1 p) ?_⟩⟩)
        rw [nI_clamp (by omega)] at ea eb
        rw [nI_1] at eb
        subst ea eb
        exact ih
      · have b := q.1 hi
        have hK := ta_Kc hB hi
        have ih := ta_xbl ht H d (p + 1) _ _ (by omega) (ta_Wc h hB hi (by omega))
        have e5 : ta_01 (ta_ib (ta_bt x) (p + 1)) = 1 := congrArg ta_01 hB
        rw [hK, e5] at ih
        have e4 : nI (32 * t + ta_K (ta_bt x) p) - 1 = nI (32 * t + ta_K (ta_bt x) p - 1) := ta_m1 (by omega)
        rw [e4] at ih ⊢
        have vp : vp_in (nI (32 * t + ta_K (ta_bt x) p - 1)) 96 := pk_in (32 * t + ta_K (ta_bt x) p - 1) 96 (by omega)
        refine br_f ta_10 (br_f ta_10 ⟨vp, fun b' eb => nm_r (nI_1 p) ?_⟩)
        rw [nI_clamp (by omega), nI_1] at eb
        subst eb
        exact ih
    · have ih := ta_xbl ht H d (p + 1) _ _ (by omega) (ta_Wo h hB)
      have e5 : ta_01 (ta_ib (ta_bt x) (p + 1)) = 0 := congrArg ta_01 hB
      rw [ta_Ko hB, e5] at ih
      exact br_t rfl (nm_r (nI_1 p) ih)
theorem ta_xb {post : Int32 → SX → Prop} {a b c : Nat → Int32} {t : Nat} {x : Int64} (ht : t < 3) (H : ∀ a' b' c' : Nat → Int32, ta_F a b c a' b' c' t → ta_T a' b' c' t (ta_K (ta_bt x) 64) (ta_S (ta_bt x) 64) (ta_E (ta_bt x) 64) → post (nI (ta_K (ta_bt x) 64)) (a', b', c')) : wpX_becomeRuns post (a, b, c) (nI t) x := by
  refine nm_r (e' := nI (32 * t + ta_K (ta_bt x) 0) - 1) ?_ ⟨65, ?_⟩
  · rw [ta_p0]; rfl
  · exact ta_xbl ht H 64 0 a b rfl ⟨fun _ _ => ⟨rfl, rfl⟩, fun j hj => absurd hj (Nat.not_lt_zero _)⟩
/-! the reference's walk -/
def ta_my (B : Nat → Bool) (p : Nat) : Nat := bif ta_ib B p then ta_K B p - 1 else ta_K B p
def ta_sy (B : Nat → Bool) (p : Nat) : Nat := bif ta_ib B p then ta_S B p (ta_K B p - 1) else p
theorem ta_my1 {B : Nat → Bool} {p : Nat} (h : ta_ib B p = true) : ta_my B p = ta_K B p - 1 := by rw [ta_my, h]; rfl
theorem ta_my0 {B : Nat → Bool} {p : Nat} (h : ta_ib B p = false) : ta_my B p = ta_K B p := by rw [ta_my, h]; rfl
theorem ta_sy1 {B : Nat → Bool} {p : Nat} (h : ta_ib B p = true) : ta_sy B p = ta_S B p (ta_K B p - 1) := by rw [ta_sy, h]; rfl
theorem ta_sy0 {B : Nat → Bool} {p : Nat} (h : ta_ib B p = false) : ta_sy B p = p := by rw [ta_sy, h]; rfl
theorem ta_psend {F G : Nat → Nat} {s e : Nat} : ∀ m, (∀ j, j + 1 = m → F j < s) → ta_ps F G s e m = m
  | 0, _ => rfl
  | m + 1, h => by
    have := h m rfl
    rw [ta_ps, if_neg (by omega)]
theorem ta_yoff {post : Int32 → SY → Prop} {J : Int32 → Int32 → (Nat → Int32) → (Nat → Int32) → (Nat → Int32) → (Nat → Int32) → Prop} {a b c mk a1 b1 c1 : Nat → Int32} {t p : Nat} {B : Nat → Bool} (ht : t < 3) (hp : p ≤ 64) (hB : B p = false) (hF : ta_F a b c a1 b1 c1 t) (hT : ta_T a1 b1 c1 t (ta_my B p) (ta_S B p) (ta_E B p)) (ih : ∀ a2 b2 c2 : Nat → Int32, ta_F a b c a2 b2 c2 t → ta_T a2 b2 c2 t (ta_my B (p + 1)) (ta_S B (p + 1)) (ta_E B (p + 1)) → J (nI (ta_sy B (p + 1))) (nI (p + 1)) a2 b2 c2 mk) : wY_runs_35 post J (nI t) (nI (ta_sy B p)) (nI p) a1 b1 c1 mk := by
  have q := ta_Qp B p
  have hi : ta_ib B (p + 1) = false := hB
  rw [ta_my0 hi, ta_sy0 hi, ta_Ko hB] at ih
  cases z : ta_ib B p
  · rw [ta_my0 z] at hT
    rw [ta_sy0 z]
    refine pk_le p p (fun _ => nm_r (nI_1 p) (nm_r (nI_1 p) (ih a1 b1 c1 hF (ta_TC hT (fun i _ => ⟨ta_So hB, ta_Eo hB⟩))))) (fun w => absurd w (by omega))
  · obtain ⟨b1', b2, b3⟩ := q.1 z
    have l := q.2.2.1 (ta_K B p - 1) (by omega)
    rw [b3] at l
    rw [ta_my1 z] at hT
    rw [ta_sy1 z]
    refine pk_le p (ta_S B p (ta_K B p - 1)) (fun w => absurd w (by omega)) (fun _ => ta_yi hT ht (by omega) l.1 hp (fun a2 b2' c2 x1 x2 => nm_r (nI_1 p) (nm_r (nI_1 p) (ih a2 b2' c2 (ta_Ft hF x1) ?_))))
    have e : ta_ps (ta_S B p) (ta_E B p) (ta_S B p (ta_K B p - 1)) p (ta_K B p - 1) = ta_K B p - 1 := ta_psend _ (fun j hj => by
      have w := q.2.2.2 j (by omega)
      rw [hj] at w
      exact w)
    rw [e, show ta_K B p - 1 + 1 = ta_K B p by omega] at x2
    refine ta_TC x2 (fun i hi => ?_)
    rw [ta_So hB, ta_Eo hB]
    by_cases y : i = ta_K B p - 1
    · subst y
      rw [ta_in2, ta_in2]
      exact ⟨rfl, b3⟩
    · rw [ta_in1 (by omega), ta_in1 (by omega)]
      exact ⟨rfl, rfl⟩
theorem ta_yrl {post : Int32 → SY → Prop} {a b c mk : Nat → Int32} {t : Nat} {B : Nat → Bool} (ht : t < 3) (hM : ∀ p, p < 64 → mk p = ta_01 (B p)) (h64 : B 64 = false) (H : ∀ a' b' c' : Nat → Int32, ta_F a b c a' b' c' t → ta_T a' b' c' t (ta_K B 65) (ta_S B 65) (ta_E B 65) → post (nI (ta_K B 65)) (a', b', c', mk)) : ∀ (d p : Nat) (a1 b1 c1 : Nat → Int32), p + d = 65 → ta_F a b c a1 b1 c1 t → ta_T a1 b1 c1 t (ta_my B p) (ta_S B p) (ta_E B p) → wY_runs_11 post (nI t) (d + 1) (nI (ta_sy B p)) (nI p) a1 b1 c1 mk
  | 0, p, a1, b1, c1, hd, hF, hT => by
    obtain rfl : p = 65 := by omega
    rw [ta_my0 (show ta_ib B 65 = false from h64)] at hT
    refine pk_lt 64 65 (fun _ => ⟨pk_in t 3 ht, ?_⟩) (fun z => absurd z (by omega))
    rw [ta_c hT ht]
    exact H _ _ _ hF hT
  | d + 1, p, a1, b1, c1, hd, hF, hT => by
    have q := ta_Qp B p
    have ih := fun a2 b2 c2 x y => ta_yrl (mk := mk) ht hM h64 H d (p + 1) a2 b2 c2 (by omega) x y
    refine pk_lt 64 p (fun z => absurd z (by omega)) (fun _ => pk_le 64 p (fun z => ?_) (fun z => ⟨pk_in p 64 z, ?_⟩))
    · obtain rfl : p = 64 := by omega
      exact ta_yoff ht (by omega) h64 hF hT ih
    · rw [nI_clamp (by omega), hM p z]
      cases hB : B p
      · exact br_t rfl (ta_yoff ht (by omega) hB hF hT ih)
      · refine br_f ta_10 (nm_r (nI_1 p) ?_)
        have hi : ta_ib B (p + 1) = true := hB
        have ih2 := ih a1 b1 c1 hF
        rw [ta_my1 hi, ta_sy1 hi] at ih2
        cases w : ta_ib B p
        · rw [ta_my0 w] at hT
          rw [ta_sy0 w]
          rw [ta_Kn hB w, Nat.add_sub_cancel, ta_Sn hB w] at ih2
          refine ih2 (ta_TC hT (fun i hi2 => ⟨ta_Sm hi2, ta_Em ?_⟩))
          rw [ta_Kn hB w]
          omega
        · rw [ta_my1 w] at hT
          rw [ta_sy1 w]
          rw [ta_Kc hB w, ta_Sc w] at ih2
          refine ih2 (ta_TC hT (fun i hi2 => ⟨ta_Sc w, ta_Em ?_⟩))
          rw [ta_Kc hB w]
          omega
theorem ta_yr {post : Int32 → SY → Prop} {a b c mk : Nat → Int32} {t : Nat} {B : Nat → Bool} (ht : t < 3) (hM : ∀ p, p < 64 → mk p = ta_01 (B p)) (h64 : B 64 = false) (H : ∀ a' b' c' : Nat → Int32, ta_F a b c a' b' c' t → ta_T a' b' c' t (ta_K B 64) (ta_S B 64) (ta_E B 64) → post (nI (ta_K B 64)) (a', b', c', mk)) : wpY_runs post (a, b, c, mk) (nI t) := by
  refine ⟨pk_in t 3 ht, fun c' ec => ⟨66, ?_⟩⟩
  rw [nI_clamp (by omega)] at ec
  subst ec
  refine ta_yrl (a := a) (b := b) (c := c) (B := B) ht hM h64 (fun a' b' c' x1 x2 => ?_) 65 0 a b _ rfl ⟨fun _ _ => ⟨rfl, rfl⟩, fun s hs => pk_un hs⟩ ⟨pk_us, Nat.zero_le 32, fun i hi => absurd hi (Nat.not_lt_zero _)⟩
  rw [ta_Ko h64] at x2 ⊢
  exact H a' b' c' x1 (ta_TC x2 (fun i _ => ⟨(ta_So h64).symm, (ta_Eo h64).symm⟩))
