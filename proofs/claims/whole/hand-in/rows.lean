section
theorem pk_us {f : Nat → Int32} {k : Nat} {x : Int32} : upd f k x k = x := if_pos rfl
theorem pk_un {f : Nat → Int32} {k j : Nat} {x : Int32} (h : j ≠ k) : upd f k x j = f j := if_neg h
theorem pk_sub {a b : Nat} (h : b ≤ a) : nI a - nI b = nI (a - b) := by
  obtain ⟨c, rfl⟩ : ∃ c, a = c + b := ⟨a - b, by omega⟩
  rw [← nI_add, Int32.add_sub_cancel, Nat.add_sub_cancel]
theorem pk_m1 (n : Nat) : nI (n + 1) + (-1) = nI n := by
  rw [← nI_1, Int32.add_assoc, show (1 : Int32) + (-1) = 0 from rfl, Int32.add_zero]
theorem pk_mul (a b : Nat) : nI a * nI b = nI (a * b) := (Int32.ofNat_mul a b).symm
theorem pk_div {a d : Nat} (ha : a < 2 ^ 31) (h0 : 0 < d) (hd : d < 2 ^ 31) : nI a / nI d = nI (a / d) := by
  apply Int32.toInt_inj.mp
  rw [lg_idiv_nonneg (by rw [nI_toInt ha]; omega) (by rw [nI_toInt hd]; omega), nI_toInt ha, nI_toInt hd, nI_toInt (Nat.lt_of_le_of_lt (Nat.div_le_self a d) ha)]
  first | rfl | exact (Int.natCast_ediv _ _).symm
theorem pk_rem {a d : Nat} (ha : a < 2 ^ 31) (h0 : 0 < d) (hd : d < 2 ^ 31) : nI a - nI a / nI d * nI d = nI (a % d) := by
  rw [pk_div ha h0 hd, pk_mul, pk_sub (Nat.div_mul_le_self a d)]
  exact congrArg nI (by have := Nat.div_add_mod' a d; omega)
theorem pk_ix (x : Int32) {n : Nat} (hn : n < 2 ^ 31) : x < 0 ∨ nI n ≤ x ∨ ∃ j : Nat, j < n ∧ x = nI j := by
  by_cases h : x < 0
  · exact Or.inl h
  · obtain ⟨j, hj, rfl⟩ := nI_of h
    by_cases h2 : j < n
    · exact Or.inr (Or.inr ⟨j, h2, rfl⟩)
    · exact Or.inr (Or.inl (nI_le (by omega) hj))
theorem pk_le {x y : Int32} {A B : Prop} (a b : Nat) (f : a ≤ b → A) (g : b < a → B) (hx : x = nI a := by rfl) (hy : y = nI b := by rfl) (ha : a < 2 ^ 31 := by omega) (hb : b < 2 ^ 31 := by omega) : (x ≤ y → A) ∧ (¬ x ≤ y → B) := by
  subst hx hy
  rw [nI_leI ha hb]
  exact ⟨f, fun z => g (by omega)⟩
theorem pk_lt {x y : Int32} {A B : Prop} (a b : Nat) (f : a < b → A) (g : b ≤ a → B) (hx : x = nI a := by rfl) (hy : y = nI b := by rfl) (ha : a < 2 ^ 31 := by omega) (hb : b < 2 ^ 31 := by omega) : (x < y → A) ∧ (¬ x < y → B) := by
  subst hx hy
  rw [nI_ltI ha hb]
  exact ⟨f, fun z => g (by omega)⟩
theorem pk_eq {x y : Int32} {A B : Prop} (a b : Nat) (f : a = b → A) (g : a ≠ b → B) (hx : x = nI a := by rfl) (hy : y = nI b := by rfl) (ha : a < 2 ^ 31 := by omega) (hb : b < 2 ^ 31 := by omega) : (x = y → A) ∧ (¬ x = y → B) := by
  subst hx hy
  rw [nI_eq ha hb]
  exact ⟨f, g⟩
theorem pk_in {x : Int32} (n N : Nat) (h : n < N) (hx : x = nI n := by rfl) (hN : N < 2 ^ 31 := by omega) : vp_in x N := by
  subst hx
  exact vp_in_nI h hN
theorem pk_cl {x : Int32} (n : Nat) (hx : x = nI n := by rfl) (h : n < 2 ^ 31 := by omega) : x.toNatClampNeg = n := by
  subst hx
  exact nI_clamp h
theorem ts_bit {w : Int64} {s : UInt64} {j : Nat} (hj : j < 64) (hs : s.toNat = j) : ((w.toUInt64 >>> s).toInt64 &&& 1) = 0 ↔ w.toBitVec.getLsbD j = false := by
  have e : (w.toUInt64 >>> s).toInt64.toBitVec = w.toBitVec >>> j := by
    apply BitVec.eq_of_toNat_eq
    show (w.toUInt64 >>> s).toNat = _
    rw [UInt64.toNat_shiftRight, hs, Nat.mod_eq_of_lt hj, BitVec.toNat_ushiftRight]
    rfl
  rw [← Int64.toBitVec_inj, Int64.toBitVec_and, e]
  show w.toBitVec >>> j &&& 1#64 = 0#64 ↔ _
  constructor
  · intro h
    have t := congrArg (fun x => x.getLsbD 0) h
    simpa using t
  · intro h
    apply BitVec.eq_of_getLsbD_eq
    intro i hi
    cases i with
    | zero => simp [h]
    | succ i => simp
theorem wb_tb (n : Nat) : (lN n).toBitVec = BitVec.ofNat 64 n := rfl
theorem wb_c : ∀ k, k < 64 → ((nI k).toInt64 &&& 63) = lN k := by decide +kernel
theorem wb_cu : ∀ k, k < 64 → ((nI k).toInt64.toUInt64 &&& Int64.toUInt64 63) = UInt64.ofNat k := by decide +kernel
theorem wb_sm : ∀ k, k < 64 → (BitVec.ofNat 64 k).smod 64 = BitVec.ofNat 64 k := by decide +kernel
/-! ===== the picture of a track, the frame of a change, the relation ===== -/
/-- track t of the arrays (a, b, c) holds m stretches, the i-th from F i to G i -/
def ta_T (a b c : Nat → Int32) (t m : Nat) (F G : Nat → Nat) : Prop :=
  c t = nI m ∧ m ≤ 32 ∧ ∀ i, i < m → a (32 * t + i) = nI (F i) ∧ b (32 * t + i) = nI (G i) ∧ F i < G i ∧ G i ≤ 64
/-- nothing but track t has changed -/
def ta_F (a b c a' b' c' : Nat → Int32) (t : Nat) : Prop :=
  (∀ p, (p < 32 * t ∨ 32 * t + 32 ≤ p) → a' p = a p ∧ b' p = b p) ∧ ∀ s, s ≠ t → c' s = c s
def i_Rel (_ : Nat) (u : SX) (v : SY) : Prop :=
  ∀ t, t < 3 → ∃ m F G, ta_T u.1 u.2.1 u.2.2 t m F G ∧ ta_T v.1 v.2.1 v.2.2.1 t m F G
theorem i_up {k : Nat} {u : SX} {v : SY} (h : i_Rel k u v) : i_Rel (k + 5) u v := h
theorem i_vc0 : wpX_init (fun u => wpY_init (fun v => i_Rel 0 u v)) :=
  fun _ _ => ⟨0, fun _ => 0, fun _ => 0, ⟨rfl, by omega, fun _ h => absurd h (Nat.not_lt_zero _)⟩, ⟨rfl, by omega, fun _ h => absurd h (Nat.not_lt_zero _)⟩⟩
theorem ta_Fr {a b c : Nat → Int32} {t : Nat} : ta_F a b c a b c t := ⟨fun _ _ => ⟨rfl, rfl⟩, fun _ _ => rfl⟩
theorem ta_Ft {a b c a1 b1 c1 a2 b2 c2 : Nat → Int32} {t : Nat} (h : ta_F a b c a1 b1 c1 t) (h2 : ta_F a1 b1 c1 a2 b2 c2 t) : ta_F a b c a2 b2 c2 t :=
  ⟨fun p hp => ⟨(h2.1 p hp).1.trans (h.1 p hp).1, (h2.1 p hp).2.trans (h.1 p hp).2⟩, fun s hs => (h2.2 s hs).trans (h.2 s hs)⟩
theorem ta_TF {a b c a' b' c' : Nat → Int32} {t s m : Nat} {F G : Nat → Nat} (h : ta_F a b c a' b' c' t) (hs : s ≠ t) (hT : ta_T a b c s m F G) : ta_T a' b' c' s m F G := by
  have hm := hT.2.1
  refine ⟨(h.2 s hs).trans hT.1, hT.2.1, fun i hi => ?_⟩
  have e := h.1 (32 * s + i) (by omega)
  have q := hT.2.2 i hi
  exact ⟨e.1.trans q.1, e.2.trans q.2.1, q.2.2⟩
theorem ta_TC {a b c : Nat → Int32} {t m : Nat} {F G F' G' : Nat → Nat} (h : ta_T a b c t m F G) (e : ∀ i, i < m → F' i = F i ∧ G' i = G i) : ta_T a b c t m F' G' := by
  refine ⟨h.1, h.2.1, fun i hi => ?_⟩
  rw [(e i hi).1, (e i hi).2]
  exact h.2.2 i hi
theorem ta_R {k : Nat} {a b c a' b' c' f g h f' g' h' mk mk' : Nat → Int32} {t m : Nat} {F G : Nat → Nat} (I : i_Rel k (a, b, c) (f, g, h, mk)) (x : ta_F a b c a' b' c' t) (y : ta_F f g h f' g' h' t) (hx : ta_T a' b' c' t m F G) (hy : ta_T f' g' h' t m F G) (j : Nat) : i_Rel j (a', b', c') (f', g', h', mk') := by
  intro s hs
  by_cases e : s = t
  · subst e; exact ⟨m, F, G, hx, hy⟩
  · obtain ⟨n, P, Q, h1, h2⟩ := I s hs
    exact ⟨n, P, Q, ta_TF x e h1, ta_TF y e h2⟩
theorem ta_c {a b c : Nat → Int32} {t m : Nat} {F G : Nat → Nat} (h : ta_T a b c t m F G) (ht : t < 3) : c (nI t).toNatClampNeg = nI m := by
  rw [nI_clamp (by omega)]; exact h.1
theorem ta_pl (t i : Nat) : nI t * 32 + nI i = nI (32 * t + i) := by
  show nI t * nI 32 + nI i = _
  rw [pk_mul, nI_add, Nat.mul_comm]
theorem ta_p0 (t : Nat) : nI t * 32 = nI (32 * t) := by
  show nI t * nI 32 = _
  rw [pk_mul, Nat.mul_comm]
theorem ta_g {a : Nat → Int32} {q x : Int32} (p : Nat) (hq : q = nI p) (h : a p = x) (hp : p < 2 ^ 31) : a q.toNatClampNeg = x := by
  rw [hq, nI_clamp hp]; exact h
theorem ta_10 : ¬ (1 : Int32) = 0 := by decide
theorem ta_65 : ¬ (65 : Int32) = 0 := by decide
/-! ===== the guards ===== -/
theorem ta_trk (x : Int32) : ((∀ post : Int32 → Prop, post 0 → wpX_isTrack post x) ∧ (∀ (v : SY) (post : Int32 → Prop), post 1 → wpY_badTrack post v x)) ∨ ∃ t : Nat, t < 3 ∧ x = nI t ∧ (∀ post : Int32 → Prop, post 1 → wpX_isTrack post x) ∧ (∀ (v : SY) (post : Int32 → Prop), post 0 → wpY_badTrack post v x) := by
  rcases pk_ix x (n := 3) (by omega) with h | h | ⟨t, ht, rfl⟩
  · exact Or.inl ⟨fun _ p => br_t h p, fun ⟨_, _, _, _⟩ _ p => br_t h p⟩
  · have h0 : ¬ x < 0 := fun z => absurd (Int32.lt_of_le_of_lt h z) (by decide)
    have h2 : ¬ x ≤ 2 := fun z => absurd (Int32.le_trans h z) (by decide)
    exact Or.inl ⟨fun _ p => br_f h0 (br_t h p), fun ⟨_, _, _, _⟩ _ p => br_f h0 (br_f h2 p)⟩
  · have h0 : ¬ nI t < 0 := nI_pos (by omega)
    have h3 : ¬ (3 : Int32) ≤ nI t := nI_ge (b := 3) ht (by decide)
    have h2 : nI t ≤ 2 := nI_le (b := 2) (by omega) (by decide)
    exact Or.inr ⟨t, ht, rfl, fun _ p => br_f h0 (br_f h3 p), fun ⟨_, _, _, _⟩ _ p => br_f h0 (br_t h2 p)⟩
theorem ta_str (x : Int32) : ((∀ post : Int32 → Prop, post 0 → wpX_isStretch post x) ∧ (∀ (v : SY) (post : Int32 → Prop), post 1 → wpY_badStretch post v x)) ∨ ∃ s e : Nat, s < e ∧ e ≤ 64 ∧ x / 65 = nI s ∧ x - x / 65 * 65 = nI e ∧ (∀ post : Int32 → Prop, post 1 → wpX_isStretch post x) ∧ (∀ (v : SY) (post : Int32 → Prop), post 0 → wpY_badStretch post v x) := by
  by_cases h : x < 0
  · exact Or.inl ⟨fun _ p => br_t h p, fun ⟨_, _, _, _⟩ _ p => br_t h p⟩
  · obtain ⟨k, hk, rfl⟩ := nI_of h
    have e1 : nI k / 65 = nI (k / 65) := pk_div (d := 65) hk (by decide) (by decide)
    have e2 : nI k - nI k / 65 * 65 = nI (k % 65) := pk_rem (d := 65) hk (by decide) (by decide)
    have b1 : k / 65 < 2 ^ 31 := by omega
    have b2 : k % 65 < 65 := by omega
    by_cases g : k / 65 < k % 65
    · refine Or.inr ⟨k / 65, k % 65, g, by omega, e1, e2, fun post p => br_f h ⟨ta_65, ta_65, ?_⟩, fun ⟨_, _, _, _⟩ post p => br_f h ⟨ta_65, ?_⟩⟩
      · exact pk_le (k % 65) (k / 65) (fun z => absurd z (by omega)) (fun _ => p) e2 e1
      · exact pk_lt 63 (k / 65) (fun z => absurd z (by omega)) (fun _ => ⟨ta_65, ta_65, pk_lt (k / 65) (k % 65) (fun _ => p) (fun z => absurd z (by omega)) e1 e2⟩) rfl e1
    · refine Or.inl ⟨fun post p => br_f h ⟨ta_65, ta_65, ?_⟩, fun ⟨_, _, _, _⟩ post p => br_f h ⟨ta_65, ?_⟩⟩
      · exact pk_le (k % 65) (k / 65) (fun _ => p) (fun z => absurd z (by omega)) e2 e1
      · exact pk_lt 63 (k / 65) (fun _ => p) (fun _ => ⟨ta_65, ta_65, pk_lt (k / 65) (k % 65) (fun z => absurd z (by omega)) (fun _ => p) e1 e2⟩) rfl e1
theorem ta_num {a b c f g h mk : Nat → Int32} {t m : Nat} {F G : Nat → Nat} (hX : ta_T a b c t m F G) (hY : ta_T f g h t m F G) (ht : t < 3) (x : Int32) : ((∀ post : Int32 → Prop, post 0 → wpX_isNumber post (a, b, c) (nI t) x) ∧ (∀ post : Int32 → Prop, post 1 → wpY_badNumber post (f, g, h, mk) (nI t) x)) ∨ ∃ i : Nat, i < m ∧ x = nI i ∧ (∀ post : Int32 → Prop, post 1 → wpX_isNumber post (a, b, c) (nI t) x) ∧ (∀ post : Int32 → Prop, post 0 → wpY_badNumber post (f, g, h, mk) (nI t) x) := by
  have hm := hX.2.1
  have hi : vp_in (nI t) 3 := vp_in_nI ht (by decide)
  by_cases z : x < 0
  · exact Or.inl ⟨fun _ p => br_t z p, fun _ p => br_t z p⟩
  · obtain ⟨k, hk, rfl⟩ := nI_of z
    by_cases q : k < m
    · exact Or.inr ⟨k, q, rfl, fun _ p => br_f z ⟨hi, pk_le m k (fun w => absurd w (by omega)) (fun _ => p) (ta_c hX ht) rfl⟩, fun _ p => br_f z ⟨hi, pk_lt k m (fun _ => p) (fun w => absurd w (by omega)) rfl (ta_c hY ht)⟩⟩
    · exact Or.inl ⟨fun _ p => br_f z ⟨hi, pk_le m k (fun _ => p) (fun w => absurd w (by omega)) (ta_c hX ht) rfl⟩, fun _ p => br_f z ⟨hi, pk_lt k m (fun w => absurd w (by omega)) (fun _ => p) rfl (ta_c hY ht)⟩⟩
/-! ===== counting ===== -/
def ta_cn (p : Nat → Bool) : Nat → Nat
  | 0 => 0
  | i + 1 => bif p i then ta_cn p i + 1 else ta_cn p i
theorem ta_cnt {p : Nat → Bool} {i : Nat} (h : p i = true) : ta_cn p (i + 1) = ta_cn p i + 1 := by
  rw [ta_cn, h]; rfl
theorem ta_cnf {p : Nat → Bool} {i : Nat} (h : p i = false) : ta_cn p (i + 1) = ta_cn p i := by
  rw [ta_cn, h]; rfl
theorem ta_cnle (p : Nat → Bool) : ∀ i, ta_cn p i ≤ i
  | 0 => Nat.le_refl 0
  | i + 1 => by
    have h := ta_cnle p i
    cases e : p i
    · rw [ta_cnf e]; omega
    · rw [ta_cnt e]; omega
theorem ta_cnc {p q : Nat → Bool} : ∀ i, (∀ j, j < i → p j = q j) → ta_cn p i = ta_cn q i
  | 0, _ => rfl
  | i + 1, h => by
    have h1 := ta_cnc i (fun j hj => h j (by omega))
    rw [ta_cn, ta_cn, h1, h i (by omega)]
theorem ta_cnmono {p : Nat → Bool} {i : Nat} : ∀ d, ta_cn p i ≤ ta_cn p (i + d)
  | 0 => Nat.le_refl _
  | d + 1 => by
    have h := ta_cnmono (p := p) (i := i) d
    have e : i + (d + 1) = (i + d) + 1 := by omega
    rw [e]
    cases z : p (i + d)
    · rw [ta_cnf z]; omega
    · rw [ta_cnt z]; omega
end
section
/-! ===== walks that only read ===== -/
theorem ta_I {k : Nat} {a b c f g h mk : Nat → Int32} (I : i_Rel k (a, b, c) (f, g, h, mk)) {t : Nat} (ht : t < 3) : ∃ m F G, ta_T a b c t m F G ∧ ta_T f g h t m F G := I t ht
def ta_mt (F G : Nat → Nat) (s e i : Nat) : Bool := decide (F i < e ∧ s < G i)
theorem ta_mtt {F G : Nat → Nat} {s e i : Nat} (h : F i < e ∧ s < G i) : ta_mt F G s e i = true := decide_eq_true h
theorem ta_mtf {F G : Nat → Nat} {s e i : Nat} (h : ¬ (F i < e ∧ s < G i)) : ta_mt F G s e i = false := decide_eq_false h
theorem ta_n1 {p : Nat → Bool} {i : Nat} (h : p i = true) : nI (ta_cn p i) + 1 = nI (ta_cn p (i + 1)) := by rw [nI_1, ta_cnt h]
theorem ta_xmeets {post : Int32 → Prop} {a b c : Nat → Int32} {q : Int32} (p x y s e : Nat) (hq : q = nI p) (hp : p < 96) (ha : a p = nI x) (hb : b p = nI y) (bx : x ≤ 64) (bY : y ≤ 64) (bs : s ≤ 64) (be : e ≤ 65) (h1 : x < e ∧ s < y → post 1) (h0 : ¬ (x < e ∧ s < y) → post 0) : wpX_meets post (a, b, c) q (nI s) (nI e) :=
  ⟨pk_in p 96 hp hq, pk_le e x (fun z => h0 (by omega)) (fun z => ⟨pk_in p 96 hp hq, pk_le y s (fun w => h0 (by omega)) (fun w => h1 ⟨z, w⟩) (ta_g p hq hb (by omega)) rfl⟩) rfl (ta_g p hq ha (by omega))⟩
theorem ta_xcm_l {post : Int32 → Prop} {a b c : Nat → Int32} {t m s e : Nat} {F G : Nat → Nat} (hT : ta_T a b c t m F G) (ht : t < 3) (bs : s ≤ 64) (be : e ≤ 65) (hp : post (nI (ta_cn (ta_mt F G s e) m))) : ∀ d i, i + d = m → wX_countMeeting_6 post (nI t) (nI s) (nI e) a b c (d + 1) (nI (ta_cn (ta_mt F G s e) i)) (nI i)
  | 0, i, hi => by
    have hm := hT.2.1
    obtain rfl : i = m := by omega
    exact ⟨pk_in t 3 ht, pk_le i i (fun _ => hp) (fun z => absurd z (by omega)) (ta_c hT ht) rfl⟩
  | d + 1, i, hi => by
    have hm := hT.2.1
    have q := hT.2.2 i (by omega)
    have ih := ta_xcm_l hT ht bs be hp d (i + 1) (by omega)
    refine ⟨pk_in t 3 ht, pk_le m i (fun z => absurd z (by omega)) (fun _ => ?_) (ta_c hT ht) rfl⟩
    refine ta_xmeets (32 * t + i) (F i) (G i) s e (ta_pl t i) (by omega) q.1 q.2.1 (by omega) (by omega) bs be (fun z => ?_) (fun z => ?_)
    · exact br_f ta_10 (nm_r (ta_n1 (ta_mtt z)) (nm_r (nI_1 i) ih))
    · rw [ta_cnf (ta_mtf z)] at ih
      exact br_t rfl (nm_r (nI_1 i) ih)
theorem ta_xcm {post : Int32 → Prop} {a b c : Nat → Int32} {t m s e : Nat} {F G : Nat → Nat} (hT : ta_T a b c t m F G) (ht : t < 3) (bs : s ≤ 64) (be : e ≤ 65) (hp : post (nI (ta_cn (ta_mt F G s e) m))) : wpX_countMeeting post (a, b, c) (nI t) (nI s) (nI e) :=
  ⟨m + 1, ta_xcm_l hT ht bs be hp m 0 (by omega)⟩
theorem ta_xda {post : Int32 → Prop} {a b c : Nat → Int32} {t m p : Nat} {F G : Nat → Nat} (hT : ta_T a b c t m F G) (ht : t < 3) (bp : p < 64) (hp : post (nI (ta_cn (ta_mt F G p (p + 1)) m))) : wpX_depthAt post (a, b, c) (nI t) (nI p) := by
  unfold wpX_depthAt
  dsimp only
  rw [nI_1]
  exact ta_xcm hT ht (by omega) (by omega) hp
theorem ta_yd_l {post : Int32 → Prop} {a b c mk : Nat → Int32} {t m p : Nat} {F G : Nat → Nat} (hT : ta_T a b c t m F G) (ht : t < 3) (bp : p < 64) (hp : post (nI (ta_cn (ta_mt F G p (p + 1)) m))) : ∀ d i, i + d = m → wY_deep_5 post (nI t) (nI p) a b c mk (d + 1) (nI (ta_cn (ta_mt F G p (p + 1)) i)) (nI i)
  | 0, i, hi => by
    have hm := hT.2.1
    obtain rfl : i = m := by omega
    exact ⟨pk_in t 3 ht, pk_le i i (fun _ => hp) (fun z => absurd z (by omega)) (ta_c hT ht) rfl⟩
  | d + 1, i, hi => by
    have hm := hT.2.1
    have q := hT.2.2 i (by omega)
    have ih := ta_yd_l (mk := mk) hT ht bp hp d (i + 1) (by omega)
    have vi : vp_in (nI t * 32 + nI i) 96 := pk_in (32 * t + i) 96 (by omega) (ta_pl t i)
    refine ⟨pk_in t 3 ht, pk_le m i (fun z => absurd z (by omega)) (fun _ => ⟨vi, pk_lt p (F i) (fun z => ?_) (fun z => ⟨vi, pk_le (G i) p (fun w => ?_) (fun w => ?_) (ta_g _ (ta_pl t i) q.2.1 (by omega)) rfl⟩) rfl (ta_g _ (ta_pl t i) q.1 (by omega))⟩) (ta_c hT ht) rfl⟩
    · rw [ta_cnf (ta_mtf (by omega))] at ih
      exact nm_r (nI_1 i) ih
    · rw [ta_cnf (ta_mtf (by omega))] at ih
      exact nm_r (nI_1 i) ih
    · exact nm_r (ta_n1 (ta_mtt (by omega))) (nm_r (nI_1 i) ih)
theorem ta_yd {post : Int32 → Prop} {a b c mk : Nat → Int32} {t m p : Nat} {F G : Nat → Nat} (hT : ta_T a b c t m F G) (ht : t < 3) (bp : p < 64) (hp : post (nI (ta_cn (ta_mt F G p (p + 1)) m))) : wpY_deep post (a, b, c, mk) (nI t) (nI p) :=
  ⟨m + 1, ta_yd_l hT ht bp hp m 0 (by omega)⟩
theorem ta_ym_l {post : Int32 → Prop} {a b c mk : Nat → Int32} {t i x y e : Nat} (ht : t < 3) (hi : i < 32) (ha : a (32 * t + i) = nI x) (hb : b (32 * t + i) = nI y) (hxy : x < y) (bY : y ≤ 64) (be : e ≤ 64) : ∀ d p, p + d = e → (p < e ∧ x < e ∧ p < y → post 1) → (¬ (p < e ∧ x < e ∧ p < y) → post 0) → wY_meets_3 post (nI t) (nI i) (nI e) a b c mk (d + 1) (nI p)
  | 0, p, hd, h1, h0 => pk_le e p (fun _ => h0 (by omega)) (fun z => absurd z (by omega))
  | d + 1, p, hd, h1, h0 => by
    have vi : vp_in (nI t * 32 + nI i) 96 := pk_in (32 * t + i) 96 (by omega) (ta_pl t i)
    refine pk_le e p (fun z => absurd z (by omega)) (fun _ => ⟨vi, pk_lt p x (fun z => ?_) (fun z => ⟨vi, pk_le y p (fun w => ?_) (fun w => ?_) (ta_g _ (ta_pl t i) hb (by omega)) rfl⟩) rfl (ta_g _ (ta_pl t i) ha (by omega))⟩)
    · exact nm_r (nI_1 p) (ta_ym_l ht hi ha hb hxy bY be d (p + 1) (by omega) (fun k => h1 (by omega)) (fun k => h0 (by omega)))
    · exact nm_r (nI_1 p) (ta_ym_l ht hi ha hb hxy bY be d (p + 1) (by omega) (fun k => h1 (by omega)) (fun k => h0 (by omega)))
    · exact h1 (by omega)
theorem ta_ymeets {post : Int32 → Prop} {a b c mk : Nat → Int32} {t i s e : Nat} (x y : Nat) (ht : t < 3) (hi : i < 32) (ha : a (32 * t + i) = nI x) (hb : b (32 * t + i) = nI y) (hxy : x < y) (bY : y ≤ 64) (hse : s < e) (be : e ≤ 64) (h1 : x < e ∧ s < y → post 1) (h0 : ¬ (x < e ∧ s < y) → post 0) : wpY_meets post (a, b, c, mk) (nI t) (nI i) (nI s) (nI e) :=
  ⟨e - s + 1, ta_ym_l ht hi ha hb hxy bY be (e - s) s (by omega) (fun z => h1 (by omega)) (fun z => h0 (by omega))⟩
theorem ta_yo_l {post : Int32 → Prop} {a b c mk : Nat → Int32} {t m s e : Nat} {F G : Nat → Nat} {x : Int32} (hT : ta_T a b c t m F G) (ht : t < 3) (hse : s < e) (be : e ≤ 64) (hq : x / 65 = nI s) (hr : x - x / 65 * 65 = nI e) (hp : post (nI (ta_cn (ta_mt F G s e) m))) : ∀ d i, i + d = m → wY_overlapping_26 post (nI t) x a b c mk (d + 1) (nI (ta_cn (ta_mt F G s e) i)) (nI i)
  | 0, i, hi => by
    have hm := hT.2.1
    obtain rfl : i = m := by omega
    exact ⟨pk_in t 3 ht, pk_le i i (fun _ => hp) (fun z => absurd z (by omega)) (ta_c hT ht) rfl⟩
  | d + 1, i, hi => by
    have hm := hT.2.1
    have q := hT.2.2 i (by omega)
    have ih := ta_yo_l (mk := mk) hT ht hse be hq hr hp d (i + 1) (by omega)
    refine ⟨pk_in t 3 ht, pk_le m i (fun z => absurd z (by omega)) (fun _ => ⟨ta_65, ta_65, ?_⟩) (ta_c hT ht) rfl⟩
    rw [hr, hq]
    refine ta_ymeets (F i) (G i) ht (by omega) q.1 q.2.1 q.2.2.1 q.2.2.2 hse be (fun z => ?_) (fun z => ?_)
    · exact br_f ta_10 (nm_r (ta_n1 (ta_mtt z)) (nm_r (nI_1 i) ih))
    · rw [ta_cnf (ta_mtf z)] at ih
      exact br_t rfl (nm_r (nI_1 i) ih)
theorem ta_ybt {v : SY} {post : Int32 → Prop} {t : Nat} (ht : t < 3) (p : post 0) : wpY_badTrack post v (nI t) := by
  obtain ⟨a, b, c, mk⟩ := v
  exact br_f (nI_pos (by omega)) (br_t (nI_le (b := 2) (by omega) (by decide)) p)
theorem ta_yo {post : Int32 → Prop} {a b c mk : Nat → Int32} {t m s e : Nat} {F G : Nat → Nat} {x : Int32} (hT : ta_T a b c t m F G) (ht : t < 3) (hse : s < e) (be : e ≤ 64) (hq : x / 65 = nI s) (hr : x - x / 65 * 65 = nI e) (hb : ∀ (v : SY) (post : Int32 → Prop), post 0 → wpY_badStretch post v x) (hp : post (nI (ta_cn (ta_mt F G s e) m))) : wpY_overlapping post (a, b, c, mk) (nI t) x := by
  unfold wpY_overlapping
  dsimp only
  exact ta_ybt ht (br_t rfl (hb _ _ (br_t rfl ⟨m + 1, ta_yo_l hT ht hse be hq hr hp m 0 (by omega)⟩)))
theorem i_vc_size {k : Nat} {u : SX} {v : SY} (I : i_Rel k u v) (hk : k + 5 ≤ 2560) (v1 : Int32) : wpX_size (fun r => wpY_size (fun r' => r' = r ∧ i_Rel (k + 5) u v) v v1) u v1 := by
  obtain ⟨a, b, c⟩ := u
  obtain ⟨f, g, h, mk⟩ := v
  unfold wpX_size wpY_size
  dsimp only
  rcases ta_trk v1 with ⟨hx, hy⟩ | ⟨t, ht, rfl, hx, hy⟩
  · exact hx _ (br_t rfl (hy _ _ (br_f ta_10 ⟨rfl, i_up I⟩)))
  · obtain ⟨m, F, G, hX, hY⟩ := ta_I I ht
    exact hx _ (br_f ta_10 ⟨pk_in t 3 ht, hy _ _ (br_t rfl ⟨pk_in t 3 ht, ⟨by rw [ta_c hX ht, ta_c hY ht], i_up I⟩⟩)⟩)
theorem i_vc_stretch {k : Nat} {u : SX} {v : SY} (I : i_Rel k u v) (hk : k + 5 ≤ 2560) (v1 : Int32) (v2 : Int32) : wpX_stretch (fun r => wpY_stretch (fun r' => r' = r ∧ i_Rel (k + 5) u v) v v1 v2) u v1 v2 := by
  obtain ⟨a, b, c⟩ := u
  obtain ⟨f, g, h, mk⟩ := v
  unfold wpX_stretch wpY_stretch
  dsimp only
  rcases ta_trk v1 with ⟨hx, hy⟩ | ⟨t, ht, rfl, hx, hy⟩
  · exact hx _ (br_t rfl (hy _ _ (br_f ta_10 ⟨rfl, i_up I⟩)))
  · obtain ⟨m, F, G, hX, hY⟩ := ta_I I ht
    rcases ta_num (mk := mk) hX hY ht v2 with ⟨kx, ky⟩ | ⟨i, hi, rfl, kx, ky⟩
    · exact hx _ (br_f ta_10 (kx _ (br_t rfl (hy _ _ (br_t rfl (ky _ (br_f ta_10 ⟨rfl, i_up I⟩)))))))
    · have hm := hX.2.1
      have q := hX.2.2 i hi
      have q' := hY.2.2 i hi
      have vi : vp_in (nI t * 32 + nI i) 96 := pk_in (32 * t + i) 96 (by omega) (ta_pl t i)
      refine hx _ (br_f ta_10 (kx _ (br_f ta_10 (nm_e ⟨vi, vi, hy _ _ (br_t rfl (ky _ (br_t rfl ⟨vi, vi, ?_, i_up I⟩)))⟩))))
      rw [ta_g _ (ta_pl t i) q.1 (by omega), ta_g _ (ta_pl t i) q.2.1 (by omega), ta_g _ (ta_pl t i) q'.1 (by omega), ta_g _ (ta_pl t i) q'.2.1 (by omega)]
theorem i_vc_overlapping {k : Nat} {u : SX} {v : SY} (I : i_Rel k u v) (hk : k + 5 ≤ 2560) (v1 : Int32) (v2 : Int32) : wpX_overlapping (fun r => wpY_overlapping (fun r' => r' = r ∧ i_Rel (k + 5) u v) v v1 v2) u v1 v2 := by
  obtain ⟨a, b, c⟩ := u
  obtain ⟨f, g, h, mk⟩ := v
  rcases ta_trk v1 with ⟨hx, hy⟩ | ⟨t, ht, rfl, hx, hy⟩
  · unfold wpX_overlapping wpY_overlapping
    dsimp only
    exact hx _ (br_t rfl (hy _ _ (br_f ta_10 ⟨rfl, i_up I⟩)))
  · obtain ⟨m, F, G, hX, hY⟩ := ta_I I ht
    rcases ta_str v2 with ⟨kx, ky⟩ | ⟨s, e, hse, be, hq, hr, kx, ky⟩
    · unfold wpX_overlapping wpY_overlapping
      dsimp only
      exact hx _ (br_f ta_10 (kx _ (br_t rfl (hy _ _ (br_t rfl (ky _ _ (br_f ta_10 ⟨rfl, i_up I⟩)))))))
    · unfold wpX_overlapping
      dsimp only
      refine hx _ (br_f ta_10 (kx _ (br_f ta_10 ⟨ta_65, ta_65, ?_⟩)))
      rw [hr, hq]
      exact ta_xcm hX ht (by omega) (by omega) (ta_yo hY ht hse be hq hr ky ⟨rfl, i_up I⟩)
end
section
/-! ===== further walks that only read ===== -/
theorem ta_ov_l {a b c f g h mk : Nat → Int32} {t m s e : Nat} {F G : Nat → Nat} {x : Int32} (hX : ta_T a b c t m F G) (hY : ta_T f g h t m F G) (ht : t < 3) (hse : s < e) (be : e ≤ 64) (hq : x / 65 = nI s) (hr : x - x / 65 * 65 = nI e) (k : Int32) : ∀ d i n, i + d = m → ∃ r : Int32, (∀ post : Int32 → Prop, post r → wX_overlap_37 post (nI t) k (nI s) (nI e) a b c (d + 1) (nI n) (nI i)) ∧ (∀ post : Int32 → Prop, post r → wY_overlap_27 post (nI t) x k f g h mk (d + 1) (nI n) (nI i))
  | 0, i, n, hi => by
    have hm := hX.2.1
    obtain rfl : i = m := by omega
    exact ⟨-3, fun _ hp => ⟨pk_in t 3 ht, pk_le i i (fun _ => hp) (fun z => absurd z (by omega)) (ta_c hX ht) rfl⟩, fun _ hp => ⟨pk_in t 3 ht, pk_le i i (fun _ => hp) (fun z => absurd z (by omega)) (ta_c hY ht) rfl⟩⟩
  | d + 1, i, n, hi => by
    have hm := hX.2.1
    have q := hX.2.2 i (by omega)
    have q' := hY.2.2 i (by omega)
    have goX : ∀ post : Int32 → Prop, (F i < e ∧ s < G i → (nI n = k → post (nI i)) ∧ (¬ nI n = k → wX_overlap_37 post (nI t) k (nI s) (nI e) a b c (d + 1) (nI (n + 1)) (nI (i + 1)))) → (¬ (F i < e ∧ s < G i) → wX_overlap_37 post (nI t) k (nI s) (nI e) a b c (d + 1) (nI n) (nI (i + 1))) → wX_overlap_37 post (nI t) k (nI s) (nI e) a b c (d + 1 + 1) (nI n) (nI i) := by
      intro post h1 h0
      refine ⟨pk_in t 3 ht, pk_le m i (fun z => absurd z (by omega)) (fun _ => ?_) (ta_c hX ht) rfl⟩
      refine ta_xmeets (32 * t + i) (F i) (G i) s e (ta_pl t i) (by omega) q.1 q.2.1 (by omega) (by omega) (by omega) (by omega) (fun z => ?_) (fun z => ?_)
      · exact br_f ta_10 ⟨(h1 z).1, fun w => nm_r (nI_1 n) (nm_r (nI_1 i) ((h1 z).2 w))⟩
      · exact br_t rfl (nm_r (nI_1 i) (h0 z))
    have goY : ∀ post : Int32 → Prop, (F i < e ∧ s < G i → (nI n = k → post (nI i)) ∧ (¬ nI n = k → wY_overlap_27 post (nI t) x k f g h mk (d + 1) (nI (n + 1)) (nI (i + 1)))) → (¬ (F i < e ∧ s < G i) → wY_overlap_27 post (nI t) x k f g h mk (d + 1) (nI n) (nI (i + 1))) → wY_overlap_27 post (nI t) x k f g h mk (d + 1 + 1) (nI n) (nI i) := by
      intro post h1 h0
      refine ⟨pk_in t 3 ht, pk_le m i (fun z => absurd z (by omega)) (fun _ => ⟨ta_65, ta_65, ?_⟩) (ta_c hY ht) rfl⟩
      rw [hr, hq]
      refine ta_ymeets (F i) (G i) ht (by omega) q'.1 q'.2.1 q'.2.2.1 q'.2.2.2 hse be (fun z => ?_) (fun z => ?_)
      · exact br_f ta_10 ⟨(h1 z).1, fun w => nm_r (nI_1 n) (nm_r (nI_1 i) ((h1 z).2 w))⟩
      · exact br_t rfl (nm_r (nI_1 i) (h0 z))
    by_cases z : F i < e ∧ s < G i
    · by_cases w : nI n = k
      · exact ⟨nI i, fun post hp => goX post (fun _ => br_t w hp) (fun y => absurd z y), fun post hp => goY post (fun _ => br_t w hp) (fun y => absurd z y)⟩
      · obtain ⟨r, h1, h2⟩ := ta_ov_l (mk := mk) hX hY ht hse be hq hr k d (i + 1) (n + 1) (by omega)
        exact ⟨r, fun post hp => goX post (fun _ => br_f w (h1 post hp)) (fun y => absurd z y), fun post hp => goY post (fun _ => br_f w (h2 post hp)) (fun y => absurd z y)⟩
    · obtain ⟨r, h1, h2⟩ := ta_ov_l (mk := mk) hX hY ht hse be hq hr k d (i + 1) n (by omega)
      exact ⟨r, fun post hp => goX post (fun y => absurd y z) (fun _ => h1 post hp), fun post hp => goY post (fun y => absurd y z) (fun _ => h2 post hp)⟩
theorem i_vc_overlap {k : Nat} {u : SX} {v : SY} (I : i_Rel k u v) (hk : k + 5 ≤ 2560) (v1 : Int32) (v2 : Int32) (v3 : Int32) : wpX_overlap (fun r => wpY_overlap (fun r' => r' = r ∧ i_Rel (k + 5) u v) v v1 v2 v3) u v1 v2 v3 := by
  obtain ⟨a, b, c⟩ := u
  obtain ⟨f, g, h, mk⟩ := v
  unfold wpX_overlap wpY_overlap
  dsimp only
  rcases ta_trk v1 with ⟨hx, hy⟩ | ⟨t, ht, rfl, hx, hy⟩
  · exact hx _ (br_t rfl (hy _ _ (br_f ta_10 ⟨rfl, i_up I⟩)))
  · obtain ⟨m, F, G, hX, hY⟩ := ta_I I ht
    rcases ta_str v2 with ⟨kx, ky⟩ | ⟨s, e, hse, be, hq, hr, kx, ky⟩
    · exact hx _ (br_f ta_10 (kx _ (br_t rfl (hy _ _ (br_t rfl (ky _ _ (br_f ta_10 ⟨rfl, i_up I⟩)))))))
    · obtain ⟨r, h1, h2⟩ := ta_ov_l (mk := mk) hX hY ht hse be hq hr v3 m 0 0 (by omega)
      exact hx _ (br_f ta_10 (kx _ (br_f ta_10 ⟨ta_65, nm_r hq ⟨ta_65, nm_r hr ⟨m + 1, h1 _ (hy _ _ (br_t rfl (ky _ _ (br_t rfl ⟨m + 1, h2 _ ⟨rfl, i_up I⟩⟩))))⟩⟩⟩)))
def ta_ar (F G : Nat → Nat) (s e i : Nat) : Bool := decide (F i ≤ s ∧ e ≤ G i)
theorem ta_art {F G : Nat → Nat} {s e i : Nat} (h : F i ≤ s ∧ e ≤ G i) : ta_ar F G s e i = true := decide_eq_true h
theorem ta_arf {F G : Nat → Nat} {s e i : Nat} (h : ¬ (F i ≤ s ∧ e ≤ G i)) : ta_ar F G s e i = false := decide_eq_false h
theorem ta_xar {post : Int32 → Prop} {a b c : Nat → Int32} {t m s e : Nat} {F G : Nat → Nat} (hT : ta_T a b c t m F G) (ht : t < 3) (bs : s ≤ 64) (be : e ≤ 64) (hp : post (nI (ta_cn (ta_ar F G s e) m))) : ∀ d i, i + d = m → wX_around_36 post (nI t) (nI s) (nI e) a b c (d + 1) (nI (ta_cn (ta_ar F G s e) i)) (nI i)
  | 0, i, hi => by
    have hm := hT.2.1
    obtain rfl : i = m := by omega
    exact ⟨pk_in t 3 ht, pk_le i i (fun _ => hp) (fun z => absurd z (by omega)) (ta_c hT ht) rfl⟩
  | d + 1, i, hi => by
    have hm := hT.2.1
    have q := hT.2.2 i (by omega)
    have ih := ta_xar hT ht bs be hp d (i + 1) (by omega)
    have vi : vp_in (nI (32 * t + i)) 96 := pk_in (32 * t + i) 96 (by omega)
    refine ⟨pk_in t 3 ht, pk_le m i (fun z => absurd z (by omega)) (fun _ => nm_r (ta_pl t i) ⟨vi, vi, ?_⟩) (ta_c hT ht) rfl⟩
    refine pk_lt s (F i) (fun z => ?_) (fun z => pk_lt (G i) e (fun w => ?_) (fun w => ?_) (ta_g _ rfl q.2.1 (by omega)) rfl) rfl (ta_g _ rfl q.1 (by omega))
    · rw [ta_cnf (ta_arf (by omega))] at ih
      exact br_t rfl (nm_r (nI_1 i) ih)
    · rw [ta_cnf (ta_arf (by omega))] at ih
      exact br_t rfl (nm_r (nI_1 i) ih)
    · exact br_f ta_10 (nm_r (ta_n1 (ta_art (by omega))) (nm_r (nI_1 i) ih))
theorem ta_yar {post : Int32 → Prop} {a b c mk : Nat → Int32} {t m s e : Nat} {F G : Nat → Nat} {x : Int32} (hT : ta_T a b c t m F G) (ht : t < 3) (bs : s ≤ 64) (be : e ≤ 64) (hq : x / 65 = nI s) (hr : x - x / 65 * 65 = nI e) (hp : post (nI (ta_cn (ta_ar F G s e) m))) : ∀ d i, i + d = m → wY_around_26 post (nI t) x a b c mk (d + 1) (nI (ta_cn (ta_ar F G s e) i)) (nI i)
  | 0, i, hi => by
    have hm := hT.2.1
    obtain rfl : i = m := by omega
    exact ⟨pk_in t 3 ht, pk_le i i (fun _ => hp) (fun z => absurd z (by omega)) (ta_c hT ht) rfl⟩
  | d + 1, i, hi => by
    have hm := hT.2.1
    have q := hT.2.2 i (by omega)
    have ih := ta_yar (mk := mk) hT ht bs be hq hr hp d (i + 1) (by omega)
    have vi : vp_in (nI t * 32 + nI i) 96 := pk_in (32 * t + i) 96 (by omega) (ta_pl t i)
    refine ⟨pk_in t 3 ht, pk_le m i (fun z => absurd z (by omega)) (fun _ => ⟨vi, ta_65, ?_⟩) (ta_c hT ht) rfl⟩
    refine pk_lt s (F i) (fun z => ?_) (fun z => ⟨ta_65, vi, pk_lt (G i) e (fun w => ?_) (fun w => ?_) (ta_g _ (ta_pl t i) q.2.1 (by omega)) hr⟩) hq (ta_g _ (ta_pl t i) q.1 (by omega))
    · rw [ta_cnf (ta_arf (by omega))] at ih
      exact nm_r (nI_1 i) ih
    · rw [ta_cnf (ta_arf (by omega))] at ih
      exact nm_r (nI_1 i) ih
    · exact nm_r (ta_n1 (ta_art (by omega))) (nm_r (nI_1 i) ih)
theorem i_vc_around {k : Nat} {u : SX} {v : SY} (I : i_Rel k u v) (hk : k + 5 ≤ 2560) (v1 : Int32) (v2 : Int32) : wpX_around (fun r => wpY_around (fun r' => r' = r ∧ i_Rel (k + 5) u v) v v1 v2) u v1 v2 := by
  obtain ⟨a, b, c⟩ := u
  obtain ⟨f, g, h, mk⟩ := v
  unfold wpX_around wpY_around
  dsimp only
  rcases ta_trk v1 with ⟨hx, hy⟩ | ⟨t, ht, rfl, hx, hy⟩
  · exact hx _ (br_t rfl (hy _ _ (br_f ta_10 ⟨rfl, i_up I⟩)))
  · obtain ⟨m, F, G, hX, hY⟩ := ta_I I ht
    rcases ta_str v2 with ⟨kx, ky⟩ | ⟨s, e, hse, be, hq, hr, kx, ky⟩
    · exact hx _ (br_f ta_10 (kx _ (br_t rfl (hy _ _ (br_t rfl (ky _ _ (br_f ta_10 ⟨rfl, i_up I⟩)))))))
    · exact hx _ (br_f ta_10 (kx _ (br_f ta_10 ⟨ta_65, nm_r hq ⟨ta_65, nm_r hr ⟨m + 1, ta_xar hX ht (by omega) be (hy _ _ (br_t rfl (ky _ _ (br_t rfl ⟨m + 1, ta_yar hY ht (by omega) be hq hr ⟨rfl, i_up I⟩ m 0 (by omega)⟩)))) m 0 (by omega)⟩⟩⟩)))
theorem i_vc_depth {k : Nat} {u : SX} {v : SY} (I : i_Rel k u v) (hk : k + 5 ≤ 2560) (v1 : Int32) (v2 : Int32) : wpX_depth (fun r => wpY_depth (fun r' => r' = r ∧ i_Rel (k + 5) u v) v v1 v2) u v1 v2 := by
  obtain ⟨a, b, c⟩ := u
  obtain ⟨f, g, h, mk⟩ := v
  unfold wpX_depth wpY_depth
  dsimp only
  rcases ta_trk v1 with ⟨hx, hy⟩ | ⟨t, ht, rfl, hx, hy⟩
  · exact hx _ (br_t rfl (hy _ _ (br_f ta_10 ⟨rfl, i_up I⟩)))
  · obtain ⟨m, F, G, hX, hY⟩ := ta_I I ht
    by_cases z : v2 < 0
    · exact hx _ (br_f ta_10 (br_t z (hy _ _ (br_t rfl (br_t z ⟨rfl, i_up I⟩)))))
    · obtain ⟨p, hp, rfl⟩ := nI_of z
      refine hx _ (br_f ta_10 (br_f z (pk_lt p 64 (fun w => ?_) (fun w => ?_))))
      · exact ta_xda hX ht w (hy _ _ (br_t rfl (br_f z (br_t (nI_le (b := 63) (by omega) (by decide)) (ta_yd hY ht w ⟨rfl, i_up I⟩)))))
      · exact hy _ _ (br_t rfl (br_f z (pk_le p 63 (fun y => absurd y (by omega)) (fun _ => ⟨rfl, i_up I⟩))))
/-! the greatest -/
def ta_mx (p : Nat → Nat) : Nat → Nat
  | 0 => 0
  | i + 1 => if p i ≤ ta_mx p i then ta_mx p i else p i
theorem ta_mxle {p : Nat → Nat} {B : Nat} (h : ∀ i, p i ≤ B) : ∀ i, ta_mx p i ≤ B
  | 0 => Nat.zero_le _
  | i + 1 => by
    rw [ta_mx]
    split
    · exact ta_mxle h i
    · exact h i
theorem ta_xdp {post : Int32 → Prop} {a b c : Nat → Int32} {t m : Nat} {F G : Nat → Nat} (hT : ta_T a b c t m F G) (ht : t < 3) (hp : post (nI (ta_mx (fun p => ta_cn (ta_mt F G p (p + 1)) m) 64))) : ∀ d i, i + d = 64 → wX_deepest_13 post (nI t) a b c (d + 1) (nI (ta_mx (fun p => ta_cn (ta_mt F G p (p + 1)) m) i)) (nI i)
  | 0, i, hi => by
    obtain rfl : i = 64 := by omega
    exact pk_le 64 64 (fun _ => hp) (fun z => absurd z (by omega))
  | d + 1, i, hi => by
    have hm := hT.2.1
    have ih := ta_xdp hT ht hp d (i + 1) (by omega)
    have b1 := ta_cnle (ta_mt F G i (i + 1)) m
    have b2 : ta_mx (fun p => ta_cn (ta_mt F G p (p + 1)) m) i ≤ m := ta_mxle (fun p => ta_cnle _ m) i
    rw [ta_mx] at ih
    refine pk_le 64 i (fun z => absurd z (by omega)) (fun _ => ta_xda hT ht (by omega) (pk_le _ _ (fun z => ?_) (fun z => ?_)))
    · rw [if_pos z] at ih
      exact nm_r (nI_1 i) ih
    · rw [if_neg (Nat.not_le.mpr z)] at ih
      exact nm_r (nI_1 i) ih
theorem ta_ydp {post : Int32 → Prop} {a b c mk : Nat → Int32} {t m : Nat} {F G : Nat → Nat} (hT : ta_T a b c t m F G) (ht : t < 3) (hp : post (nI (ta_mx (fun p => ta_cn (ta_mt F G p (p + 1)) m) 64))) : ∀ d i, i + d = 64 → wY_deepest_14 post (nI t) a b c mk (d + 1) (nI (ta_mx (fun p => ta_cn (ta_mt F G p (p + 1)) m) i)) (nI i)
  | 0, i, hi => by
    obtain rfl : i = 64 := by omega
    exact pk_le 64 64 (fun _ => hp) (fun z => absurd z (by omega))
  | d + 1, i, hi => by
    have hm := hT.2.1
    have ih := ta_ydp (mk := mk) hT ht hp d (i + 1) (by omega)
    have b1 := ta_cnle (ta_mt F G i (i + 1)) m
    have b2 : ta_mx (fun p => ta_cn (ta_mt F G p (p + 1)) m) i ≤ m := ta_mxle (fun p => ta_cnle _ m) i
    rw [ta_mx] at ih
    refine pk_le 64 i (fun z => absurd z (by omega)) (fun _ => ta_yd hT ht (by omega) (pk_le _ _ (fun z => ?_) (fun z => ?_)))
    · rw [if_pos z] at ih
      exact nm_r (nI_1 i) ih
    · rw [if_neg (Nat.not_le.mpr z)] at ih
      exact nm_r (nI_1 i) ih
theorem i_vc_deepest {k : Nat} {u : SX} {v : SY} (I : i_Rel k u v) (hk : k + 5 ≤ 2560) (v1 : Int32) : wpX_deepest (fun r => wpY_deepest (fun r' => r' = r ∧ i_Rel (k + 5) u v) v v1) u v1 := by
  obtain ⟨a, b, c⟩ := u
  obtain ⟨f, g, h, mk⟩ := v
  unfold wpX_deepest wpY_deepest
  dsimp only
  rcases ta_trk v1 with ⟨hx, hy⟩ | ⟨t, ht, rfl, hx, hy⟩
  · exact hx _ (br_t rfl (hy _ _ (br_f ta_10 ⟨rfl, i_up I⟩)))
  · obtain ⟨m, F, G, hX, hY⟩ := ta_I I ht
    exact hx _ (br_f ta_10 ⟨65, ta_xdp hX ht (hy _ _ (br_t rfl ⟨65, ta_ydp hY ht ⟨rfl, i_up I⟩ 64 0 rfl⟩)) 64 0 rfl⟩)
def ta_cv (F G : Nat → Nat) (m d p : Nat) : Bool := decide (d ≤ ta_cn (ta_mt F G p (p + 1)) m)
theorem ta_cvt {F G : Nat → Nat} {m d p : Nat} (h : d ≤ ta_cn (ta_mt F G p (p + 1)) m) : ta_cv F G m d p = true := decide_eq_true h
theorem ta_cvf {F G : Nat → Nat} {m d p : Nat} (h : ta_cn (ta_mt F G p (p + 1)) m < d) : ta_cv F G m d p = false := decide_eq_false (by omega)
theorem ta_xcv {post : Int32 → Prop} {a b c : Nat → Int32} {t m x : Nat} {F G : Nat → Nat} (hT : ta_T a b c t m F G) (ht : t < 3) (bx : x ≤ 32) (hp : post (nI (ta_cn (ta_cv F G m x) 64))) : ∀ d i, i + d = 64 → wX_covered_27 post (nI t) (nI x) a b c (d + 1) (nI (ta_cn (ta_cv F G m x) i)) (nI i)
  | 0, i, hi => by
    obtain rfl : i = 64 := by omega
    exact pk_le 64 64 (fun _ => hp) (fun z => absurd z (by omega))
  | d + 1, i, hi => by
    have hm := hT.2.1
    have ih := ta_xcv hT ht bx hp d (i + 1) (by omega)
    have b1 := ta_cnle (ta_mt F G i (i + 1)) m
    refine pk_le 64 i (fun z => absurd z (by omega)) (fun _ => ta_xda hT ht (by omega) (pk_lt _ x (fun z => ?_) (fun z => ?_)))
    · rw [ta_cnf (ta_cvf z)] at ih
      exact nm_r (nI_1 i) ih
    · exact nm_r (ta_n1 (ta_cvt z)) (nm_r (nI_1 i) ih)
theorem ta_ycv {post : Int32 → Prop} {a b c mk : Nat → Int32} {t m x : Nat} {F G : Nat → Nat} (hT : ta_T a b c t m F G) (ht : t < 3) (bx : x ≤ 32) (hp : post (nI (ta_cn (ta_cv F G m x) 64))) : ∀ d i, i + d = 64 → wY_covered_28 post (nI t) (nI x) a b c mk (d + 1) (nI (ta_cn (ta_cv F G m x) i)) (nI i)
  | 0, i, hi => by
    obtain rfl : i = 64 := by omega
    exact pk_le 64 64 (fun _ => hp) (fun z => absurd z (by omega))
  | d + 1, i, hi => by
    have hm := hT.2.1
    have ih := ta_ycv (mk := mk) hT ht bx hp d (i + 1) (by omega)
    have b1 := ta_cnle (ta_mt F G i (i + 1)) m
    refine pk_le 64 i (fun z => absurd z (by omega)) (fun _ => ta_yd hT ht (by omega) (pk_lt _ x (fun z => ?_) (fun z => ?_)))
    · rw [ta_cnf (ta_cvf z)] at ih
      exact nm_r (nI_1 i) ih
    · exact nm_r (ta_n1 (ta_cvt z)) (nm_r (nI_1 i) ih)
theorem i_vc_covered {k : Nat} {u : SX} {v : SY} (I : i_Rel k u v) (hk : k + 5 ≤ 2560) (v1 : Int32) (v2 : Int32) : wpX_covered (fun r => wpY_covered (fun r' => r' = r ∧ i_Rel (k + 5) u v) v v1 v2) u v1 v2 := by
  obtain ⟨a, b, c⟩ := u
  obtain ⟨f, g, h, mk⟩ := v
  unfold wpX_covered wpY_covered
  dsimp only
  rcases ta_trk v1 with ⟨hx, hy⟩ | ⟨t, ht, rfl, hx, hy⟩
  · exact hx _ (br_t rfl (hy _ _ (br_f ta_10 ⟨rfl, i_up I⟩)))
  · obtain ⟨m, F, G, hX, hY⟩ := ta_I I ht
    by_cases z : v2 < 0
    · exact hx _ (br_f ta_10 (br_t z (hy _ _ (br_t rfl (br_t z ⟨rfl, i_up I⟩)))))
    · by_cases w : v2 ≤ 32
      · obtain ⟨x, bx, rfl⟩ := nI_of2 (n := 32) (by decide) z w
        exact hx _ (br_f ta_10 (br_f z (br_t w ⟨65, ta_xcv hX ht bx (hy _ _ (br_t rfl (br_f z (br_t w ⟨65, ta_ycv hY ht bx ⟨rfl, i_up I⟩ 64 0 rfl⟩)))) 64 0 rfl⟩)))
      · exact hx _ (br_f ta_10 (br_f z (br_f w (hy _ _ (br_t rfl (br_f z (br_f w ⟨rfl, i_up I⟩)))))))
end
section
/-! ===== nearest, distance, meetings ===== -/
def ta_gp (x y s e : Nat) : Nat := if y ≤ s then s - y else if e ≤ x then x - e else 0
theorem ta_gp1 {x y s e : Nat} (h : y ≤ s) : ta_gp x y s e = s - y := if_pos h
theorem ta_gp2 {x y s e : Nat} (h : s < y) (h2 : e ≤ x) : ta_gp x y s e = x - e := by
  rw [ta_gp, if_neg (by omega), if_pos h2]
theorem ta_gp3 {x y s e : Nat} (h : s < y) (h2 : x < e) : ta_gp x y s e = 0 := by
  rw [ta_gp, if_neg (by omega), if_neg (by omega)]
theorem ta_gplt {x y s e : Nat} (h : x < y) (hy : y ≤ 64) (hs : s < e) (he : e ≤ 64) : ta_gp x y s e < 64 := by
  unfold ta_gp
  split
  · omega
  · split <;> omega
theorem ta_xgap {post : Int32 → Prop} {a b c : Nat → Int32} {q : Int32} (p x y s e : Nat) (hq : q = nI p) (hp : p < 96) (ha : a p = nI x) (hb : b p = nI y) (hxy : x < y) (bY : y ≤ 64) (hse : s < e) (be : e ≤ 64) (h : post (nI (ta_gp x y s e))) : wpX_gap post (a, b, c) q (nI s) (nI e) := by
  have vi : vp_in q 96 := pk_in p 96 hp hq
  refine ⟨vi, pk_lt s y (fun z => ⟨vi, pk_lt x e (fun w => ?_) (fun w => ⟨vi, ?_⟩) (ta_g p hq ha (by omega)) rfl⟩) (fun z => ⟨vi, ?_⟩) rfl (ta_g p hq hb (by omega))⟩
  · rw [ta_gp3 z w] at h
    exact h
  · rw [ta_gp2 z w] at h
    rw [ta_g p hq ha (by omega), pk_sub w]
    exact h
  · rw [ta_gp1 z] at h
    rw [ta_g p hq hb (by omega), pk_sub z]
    exact h
theorem ta_yap {post : Int32 → Prop} {a b c mk : Nat → Int32} {t i s e : Nat} (x y : Nat) (ht : t < 3) (hi : i < 32) (ha : a (32 * t + i) = nI x) (hb : b (32 * t + i) = nI y) (hxy : x < y) (bY : y ≤ 64) (hse : s < e) (be : e ≤ 64) (h : post (nI (ta_gp x y s e))) : wpY_apart post (a, b, c, mk) (nI t) (nI i) (nI s) (nI e) := by
  have vi : vp_in (nI t * 32 + nI i) 96 := pk_in (32 * t + i) 96 (by omega) (ta_pl t i)
  unfold wpY_apart
  dsimp only
  refine ta_ymeets x y ht hi ha hb hxy bY hse be (fun z => br_f ta_10 ?_) (fun z => br_t rfl ⟨vi, pk_lt s y (fun w => ⟨vi, ?_⟩) (fun w => ⟨vi, ?_⟩) rfl (ta_g _ (ta_pl t i) hb (by omega))⟩)
  · rw [ta_gp3 z.2 z.1] at h
    exact h
  · rw [ta_gp2 w (by omega)] at h
    rw [ta_g _ (ta_pl t i) ha (by omega), pk_sub (by omega)]
    exact h
  · rw [ta_gp1 w] at h
    rw [ta_g _ (ta_pl t i) hb (by omega), pk_sub w]
    exact h
theorem ta_nr_l {a b c f g h mk : Nat → Int32} {t m s e : Nat} {F G : Nat → Nat} {x : Int32} (hX : ta_T a b c t m F G) (hY : ta_T f g h t m F G) (ht : t < 3) (hse : s < e) (be : e ≤ 64) (hq : x / 65 = nI s) (hr : x - x / 65 * 65 = nI e) : ∀ d i best least, i + d = m → best < m → least ≤ 64 → ∃ j : Nat, j < m ∧ (∀ post : Int32 → Prop, post (nI j) → wX_nearest_10 post (nI t) (nI s) (nI e) a b c (d + 1) (nI best) (nI least) (nI i)) ∧ (∀ post : Int32 → Prop, post (nI j) → wY_closest_32 post (nI t) x f g h mk (d + 1) (nI best) (nI least) (nI i))
  | 0, i, best, least, hi, hb, hl => by
    have hm := hX.2.1
    obtain rfl : i = m := by omega
    exact ⟨best, hb, fun _ hp => ⟨pk_in t 3 ht, pk_le i i (fun _ => hp) (fun z => absurd z (by omega)) (ta_c hX ht) rfl⟩, fun _ hp => ⟨pk_in t 3 ht, pk_le i i (fun _ => hp) (fun z => absurd z (by omega)) (ta_c hY ht) rfl⟩⟩
  | d + 1, i, best, least, hi, hb, hl => by
    have hm := hX.2.1
    have q := hX.2.2 i (by omega)
    have q' := hY.2.2 i (by omega)
    have bg := ta_gplt q.2.2.1 q.2.2.2 hse be
    have goX : ∀ post : Int32 → Prop, (least ≤ ta_gp (F i) (G i) s e → wX_nearest_10 post (nI t) (nI s) (nI e) a b c (d + 1) (nI best) (nI least) (nI (i + 1))) → (ta_gp (F i) (G i) s e < least → wX_nearest_10 post (nI t) (nI s) (nI e) a b c (d + 1) (nI i) (nI (ta_gp (F i) (G i) s e)) (nI (i + 1))) → wX_nearest_10 post (nI t) (nI s) (nI e) a b c (d + 1 + 1) (nI best) (nI least) (nI i) := by
      intro post h1 h0
      refine ⟨pk_in t 3 ht, pk_le m i (fun z => absurd z (by omega)) (fun _ => ?_) (ta_c hX ht) rfl⟩
      exact ta_xgap (32 * t + i) (F i) (G i) s e (ta_pl t i) (by omega) q.1 q.2.1 q.2.2.1 q.2.2.2 hse be (pk_le least _ (fun z => nm_r (nI_1 i) (h1 z)) (fun z => nm_r (nI_1 i) (h0 z)))
    have goY : ∀ post : Int32 → Prop, (least ≤ ta_gp (F i) (G i) s e → wY_closest_32 post (nI t) x f g h mk (d + 1) (nI best) (nI least) (nI (i + 1))) → (ta_gp (F i) (G i) s e < least → wY_closest_32 post (nI t) x f g h mk (d + 1) (nI i) (nI (ta_gp (F i) (G i) s e)) (nI (i + 1))) → wY_closest_32 post (nI t) x f g h mk (d + 1 + 1) (nI best) (nI least) (nI i) := by
      intro post h1 h0
      refine ⟨pk_in t 3 ht, pk_le m i (fun z => absurd z (by omega)) (fun _ => ⟨ta_65, ta_65, ?_⟩) (ta_c hY ht) rfl⟩
      rw [hr, hq]
      exact ta_yap (F i) (G i) ht (by omega) q'.1 q'.2.1 q'.2.2.1 q'.2.2.2 hse be (pk_le least _ (fun z => nm_r (nI_1 i) (h1 z)) (fun z => nm_r (nI_1 i) (h0 z)))
    by_cases z : least ≤ ta_gp (F i) (G i) s e
    · obtain ⟨j, hj, h1, h2⟩ := ta_nr_l (mk := mk) hX hY ht hse be hq hr d (i + 1) best least (by omega) hb hl
      exact ⟨j, hj, fun post hp => goX post (fun _ => h1 post hp) (fun w => absurd w (by omega)), fun post hp => goY post (fun _ => h2 post hp) (fun w => absurd w (by omega))⟩
    · obtain ⟨j, hj, h1, h2⟩ := ta_nr_l (mk := mk) hX hY ht hse be hq hr d (i + 1) i (ta_gp (F i) (G i) s e) (by omega) (by omega) (by omega)
      exact ⟨j, hj, fun post hp => goX post (fun w => absurd w z) (fun _ => h1 post hp), fun post hp => goY post (fun w => absurd w z) (fun _ => h2 post hp)⟩
theorem ta_near {a b c f g h mk : Nat → Int32} {t m s e : Nat} {F G : Nat → Nat} {x : Int32} (hX : ta_T a b c t m F G) (hY : ta_T f g h t m F G) (ht : t < 3) (hse : s < e) (be : e ≤ 64) (hq : x / 65 = nI s) (hr : x - x / 65 * 65 = nI e) (h0 : 0 < m) : ∃ j : Nat, j < m ∧ (∀ post : Int32 → Prop, post (nI j) → wpX_nearest post (a, b, c) (nI t) (nI s) (nI e)) ∧ (∀ post : Int32 → Prop, post (nI j) → ∃ n, wY_closest_32 post (nI t) x f g h mk n (-3) 999 0) := by
  have hm := hX.2.1
  have q := hX.2.2 0 h0
  have q' := hY.2.2 0 h0
  have bg := ta_gplt q.2.2.1 q.2.2.2 hse be
  obtain ⟨j, hj, h1, h2⟩ := ta_nr_l (mk := mk) hX hY ht hse be hq hr (m - 1) 1 0 (ta_gp (F 0) (G 0) s e) (by omega) h0 (by omega)
  refine ⟨j, hj, fun post hp => ⟨m - 1 + 1 + 1, ⟨pk_in t 3 ht, pk_le m 0 (fun z => absurd z (by omega)) (fun _ => ?_) (ta_c hX ht) rfl⟩⟩, fun post hp => ⟨m - 1 + 1 + 1, ⟨pk_in t 3 ht, pk_le m 0 (fun z => absurd z (by omega)) (fun _ => ⟨ta_65, ta_65, ?_⟩) (ta_c hY ht) rfl⟩⟩⟩
  · exact ta_xgap (32 * t + 0) (F 0) (G 0) s e (ta_pl t 0) (by omega) q.1 q.2.1 q.2.2.1 q.2.2.2 hse be (pk_le 64 (ta_gp (F 0) (G 0) s e) (fun z => absurd z (by omega)) (fun z => nm_r (nI_1 0) (h1 post hp)))
  · rw [hr, hq]
    exact ta_yap (i := 0) (F 0) (G 0) ht (by omega) q'.1 q'.2.1 q'.2.2.1 q'.2.2.2 hse be (pk_le 999 (ta_gp (F 0) (G 0) s e) (fun z => absurd z (by omega)) (fun z => nm_r (nI_1 0) (h2 post hp)))
theorem i_vc_closest {k : Nat} {u : SX} {v : SY} (I : i_Rel k u v) (hk : k + 5 ≤ 2560) (v1 : Int32) (v2 : Int32) : wpX_closest (fun r => wpY_closest (fun r' => r' = r ∧ i_Rel (k + 5) u v) v v1 v2) u v1 v2 := by
  obtain ⟨a, b, c⟩ := u
  obtain ⟨f, g, h, mk⟩ := v
  unfold wpX_closest wpY_closest
  dsimp only
  rcases ta_trk v1 with ⟨hx, hy⟩ | ⟨t, ht, rfl, hx, hy⟩
  · exact hx _ (br_t rfl (hy _ _ (br_f ta_10 ⟨rfl, i_up I⟩)))
  · obtain ⟨m, F, G, hX, hY⟩ := ta_I I ht
    have hm := hX.2.1
    rcases ta_str v2 with ⟨kx, ky⟩ | ⟨s, e, hse, be, hq, hr, kx, ky⟩
    · exact hx _ (br_f ta_10 (kx _ (br_t rfl (hy _ _ (br_t rfl (ky _ _ (br_f ta_10 ⟨rfl, i_up I⟩)))))))
    · refine hx _ (br_f ta_10 (kx _ (br_f ta_10 ⟨pk_in t 3 ht, pk_eq m 0 (fun z => ?_) (fun z => ⟨ta_65, ta_65, ?_⟩) (ta_c hX ht) rfl⟩)))
      · exact hy _ _ (br_t rfl (ky _ _ (br_t rfl ⟨1, pk_in t 3 ht, pk_le m 0 (fun _ => ⟨rfl, i_up I⟩) (fun w => absurd w (by omega)) (ta_c hY ht) rfl⟩)))
      · obtain ⟨j, hj, h1, h2⟩ := ta_near (mk := mk) hX hY ht hse be hq hr (by omega)
        rw [hr, hq]
        exact h1 _ (hy _ _ (br_t rfl (ky _ _ (br_t rfl (h2 _ ⟨rfl, i_up I⟩)))))
theorem i_vc_distance {k : Nat} {u : SX} {v : SY} (I : i_Rel k u v) (hk : k + 5 ≤ 2560) (v1 : Int32) (v2 : Int32) : wpX_distance (fun r => wpY_distance (fun r' => r' = r ∧ i_Rel (k + 5) u v) v v1 v2) u v1 v2 := by
  obtain ⟨a, b, c⟩ := u
  obtain ⟨f, g, h, mk⟩ := v
  unfold wpX_distance wpY_distance wpY_closest
  dsimp only
  rcases ta_trk v1 with ⟨hx, hy⟩ | ⟨t, ht, rfl, hx, hy⟩
  · exact hx _ (br_t rfl (hy _ _ (br_f ta_10 (br_f (by decide) ⟨rfl, i_up I⟩))))
  · obtain ⟨m, F, G, hX, hY⟩ := ta_I I ht
    have hm := hX.2.1
    rcases ta_str v2 with ⟨kx, ky⟩ | ⟨s, e, hse, be, hq, hr, kx, ky⟩
    · exact hx _ (br_f ta_10 (kx _ (br_t rfl (hy _ _ (br_t rfl (ky _ _ (br_f ta_10 (br_f (by decide) ⟨rfl, i_up I⟩))))))))
    · refine hx _ (br_f ta_10 (kx _ (br_f ta_10 ⟨pk_in t 3 ht, pk_eq m 0 (fun z => ?_) (fun z => ⟨ta_65, nm_r hq ⟨ta_65, nm_r hr ?_⟩⟩) (ta_c hX ht) rfl⟩)))
      · exact hy _ _ (br_t rfl (ky _ _ (br_t rfl ⟨1, pk_in t 3 ht, pk_le m 0 (fun _ => br_f (by decide) ⟨rfl, i_up I⟩) (fun w => absurd w (by omega)) (ta_c hY ht) rfl⟩)))
      · obtain ⟨j, hj, h1, h2⟩ := ta_near (mk := mk) hX hY ht hse be hq hr (by omega)
        have q := hX.2.2 j hj
        have q' := hY.2.2 j hj
        refine h1 _ (ta_xgap (32 * t + j) (F j) (G j) s e (ta_pl t j) (by omega) q.1 q.2.1 q.2.2.1 q.2.2.2 hse be (hy _ _ (br_t rfl (ky _ _ (br_t rfl (h2 _ (br_t (nI_pos' (by omega)) ⟨ta_65, ta_65, ?_⟩)))))))
        rw [hr, hq]
        exact ta_yap (F j) (G j) ht (by omega) q'.1 q'.2.1 q'.2.2.1 q'.2.2.2 hse be ⟨rfl, i_up I⟩
def ta_sm (p : Nat → Nat) : Nat → Nat
  | 0 => 0
  | i + 1 => ta_sm p i + p i
theorem ta_mk {s e : Nat} (hse : s < e) (be : e ≤ 64) : nI (65 * s + e) / 65 = nI s ∧ nI (65 * s + e) - nI (65 * s + e) / 65 * 65 = nI e ∧ ∀ (v : SY) (post : Int32 → Prop), post 0 → wpY_badStretch post v (nI (65 * s + e)) := by
  have e1 : nI (65 * s + e) / 65 = nI s := (pk_div (d := 65) (by omega) (by decide) (by decide)).trans (congrArg nI (by omega))
  have e2 : nI (65 * s + e) - nI (65 * s + e) / 65 * 65 = nI e := (pk_rem (d := 65) (by omega) (by decide) (by decide)).trans (congrArg nI (by omega))
  refine ⟨e1, e2, fun ⟨_, _, _, _⟩ post p => br_f (nI_pos (by omega)) ⟨ta_65, ?_⟩⟩
  exact pk_lt 63 s (fun z => absurd z (by omega)) (fun _ => ⟨ta_65, ta_65, pk_lt s e (fun _ => p) (fun z => absurd z (by omega)) e1 e2⟩) rfl e1
theorem ta_65s (x y : Nat) : (65 : Int32) * nI x + nI y = nI (65 * x + y) := by
  show nI 65 * nI x + nI y = _
  rw [pk_mul, nI_add]
theorem ta_xmg {post : Int32 → Prop} {a b c : Nat → Int32} {t m w n : Nat} {F G P Q : Nat → Nat} (hT : ta_T a b c t m F G) (ht : t < 3) (hW : ta_T a b c w n P Q) (hw : w < 3) (hp : post (nI (ta_sm (fun i => ta_cn (ta_mt P Q (F i) (G i)) n) m))) : ∀ d i, i + d = m → wX_meetings_21 post (nI t) (nI w) a b c (d + 1) (nI (ta_sm (fun i => ta_cn (ta_mt P Q (F i) (G i)) n) i)) (nI i)
  | 0, i, hi => by
    have hm := hT.2.1
    obtain rfl : i = m := by omega
    exact ⟨pk_in t 3 ht, pk_le i i (fun _ => hp) (fun z => absurd z (by omega)) (ta_c hT ht) rfl⟩
  | d + 1, i, hi => by
    have hm := hT.2.1
    have q := hT.2.2 i (by omega)
    have ih := ta_xmg hT ht hW hw hp d (i + 1) (by omega)
    have vi : vp_in (nI (32 * t + i)) 96 := pk_in (32 * t + i) 96 (by omega)
    refine ⟨pk_in t 3 ht, pk_le m i (fun z => absurd z (by omega)) (fun _ => nm_r (ta_pl t i) ⟨vi, vi, ?_⟩) (ta_c hT ht) rfl⟩
    rw [ta_g (32 * t + i) rfl q.1 (by omega), ta_g (32 * t + i) rfl q.2.1 (by omega)]
    exact ta_xcm hW hw (by omega) (by omega) (nm_r (nI_add _ _) (nm_r (nI_1 i) ih))
theorem ta_ymg {post : Int32 → Prop} {a b c mk : Nat → Int32} {t m w n : Nat} {F G P Q : Nat → Nat} (hT : ta_T a b c t m F G) (ht : t < 3) (hW : ta_T a b c w n P Q) (hw : w < 3) (hp : post (nI (ta_sm (fun i => ta_cn (ta_mt P Q (F i) (G i)) n) m))) : ∀ d i, i + d = m → wY_meetings_23 post (nI t) (nI w) a b c mk (d + 1) (nI (ta_sm (fun i => ta_cn (ta_mt P Q (F i) (G i)) n) i)) (nI i)
  | 0, i, hi => by
    have hm := hT.2.1
    obtain rfl : i = m := by omega
    exact ⟨pk_in t 3 ht, pk_le i i (fun _ => hp) (fun z => absurd z (by omega)) (ta_c hT ht) rfl⟩
  | d + 1, i, hi => by
    have hm := hT.2.1
    have q := hT.2.2 i (by omega)
    have ih := ta_ymg (mk := mk) hT ht hW hw hp d (i + 1) (by omega)
    have vi : vp_in (nI t * 32 + nI i) 96 := pk_in (32 * t + i) 96 (by omega) (ta_pl t i)
    obtain ⟨e1, e2, e3⟩ := ta_mk q.2.2.1 q.2.2.2
    refine ⟨pk_in t 3 ht, pk_le m i (fun z => absurd z (by omega)) (fun _ => ⟨vi, vi, nm_r (e' := nI (65 * F i + G i)) ?_ ?_⟩) (ta_c hT ht) rfl⟩
    · rw [ta_g _ (ta_pl t i) q.1 (by omega), ta_g _ (ta_pl t i) q.2.1 (by omega), ta_65s]
    · exact ta_yo hW hw q.2.2.1 q.2.2.2 e1 e2 e3 (nm_r (nI_add _ _) (nm_r (nI_1 i) ih))
theorem i_vc_meetings {k : Nat} {u : SX} {v : SY} (I : i_Rel k u v) (hk : k + 5 ≤ 2560) (v1 : Int32) (v2 : Int32) : wpX_meetings (fun r => wpY_meetings (fun r' => r' = r ∧ i_Rel (k + 5) u v) v v1 v2) u v1 v2 := by
  obtain ⟨a, b, c⟩ := u
  obtain ⟨f, g, h, mk⟩ := v
  unfold wpX_meetings wpY_meetings
  dsimp only
  rcases ta_trk v1 with ⟨hx, hy⟩ | ⟨t, ht, rfl, hx, hy⟩
  · exact hx _ (br_t rfl (hy _ _ (br_f ta_10 ⟨rfl, i_up I⟩)))
  · rcases ta_trk v2 with ⟨kx, ky⟩ | ⟨w, hw, rfl, kx, ky⟩
    · exact hx _ (br_f ta_10 (kx _ (br_t rfl (hy _ _ (br_t rfl (ky _ _ (br_f ta_10 ⟨rfl, i_up I⟩)))))))
    · obtain ⟨m, F, G, hX, hY⟩ := ta_I I ht
      obtain ⟨n, P, Q, hX2, hY2⟩ := ta_I I hw
      exact hx _ (br_f ta_10 (kx _ (br_f ta_10 ⟨m + 1, ta_xmg hX ht hX2 hw (hy _ _ (br_t rfl (ky _ _ (br_t rfl ⟨m + 1, ta_ymg hY ht hY2 hw ⟨rfl, i_up I⟩ m 0 (by omega)⟩)))) m 0 (by omega)⟩)))
end
section
/-! ===== insert ===== -/
def ta_ps (F G : Nat → Nat) (s e : Nat) : Nat → Nat
  | 0 => 0
  | j + 1 => if s < F j ∨ (s = F j ∧ G j < e) then ta_ps F G s e j else j + 1
def ta_in (F : Nat → Nat) (q s j : Nat) : Nat := if j < q then F j else if j = q then s else F (j - 1)
theorem ta_in1 {F : Nat → Nat} {q s j : Nat} (h : j < q) : ta_in F q s j = F j := if_pos h
theorem ta_in2 {F : Nat → Nat} {q s : Nat} : ta_in F q s q = s := by
  rw [ta_in, if_neg (Nat.lt_irrefl _), if_pos rfl]
theorem ta_in3 {F : Nat → Nat} {q s j : Nat} (h : q < j) : ta_in F q s j = F (j - 1) := by
  rw [ta_in, if_neg (by omega), if_neg (by omega)]
theorem ta_psle {F G : Nat → Nat} {s e : Nat} : ∀ j, ta_ps F G s e j ≤ j
  | 0 => Nat.le_refl 0
  | j + 1 => by
    have h := ta_psle (F := F) (G := G) (s := s) (e := e) j
    rw [ta_ps]
    split <;> omega
/-- the stretches from j on have moved one place up -/
def ta_M (a b : Nat → Int32) (t m : Nat) (F G : Nat → Nat) (j : Nat) (a1 b1 : Nat → Int32) : Prop :=
  (∀ p, (p < 32 * t ∨ 32 * t + 32 ≤ p) → a1 p = a p ∧ b1 p = b p) ∧ (∀ i, i < j → a1 (32 * t + i) = nI (F i) ∧ b1 (32 * t + i) = nI (G i)) ∧ (∀ i, j < i → i ≤ m → a1 (32 * t + i) = nI (F (i - 1)) ∧ b1 (32 * t + i) = nI (G (i - 1)))
theorem ta_M0 {a b c : Nat → Int32} {t m : Nat} {F G : Nat → Nat} (hT : ta_T a b c t m F G) : ta_M a b t m F G m a b :=
  ⟨fun _ _ => ⟨rfl, rfl⟩, fun i hi => ⟨(hT.2.2 i hi).1, (hT.2.2 i hi).2.1⟩, fun i h1 h2 => absurd h1 (by omega)⟩
theorem ta_Ms {a b a1 b1 : Nat → Int32} {t m j : Nat} {F G : Nat → Nat} (h : ta_M a b t m F G (j + 1) a1 b1) (hj : j + 1 ≤ m) (hm : m < 32) : ta_M a b t m F G j (upd a1 (32 * t + (j + 1)) (a1 (32 * t + j))) (upd b1 (32 * t + (j + 1)) (b1 (32 * t + j))) := by
  refine ⟨fun p hp => ?_, fun i hi => ?_, fun i h1 h2 => ?_⟩
  · rw [pk_un (by omega), pk_un (by omega)]
    exact h.1 p hp
  · rw [pk_un (by omega), pk_un (by omega)]
    exact h.2.1 i (by omega)
  · by_cases e : i = j + 1
    · subst e
      rw [pk_us, pk_us]
      exact h.2.1 j (by omega)
    · rw [pk_un (by omega), pk_un (by omega)]
      exact h.2.2 i (by omega) h2
theorem ta_Me {a b c a1 b1 : Nat → Int32} {t m j s e : Nat} {F G : Nat → Nat} (hT : ta_T a b c t m F G) (h : ta_M a b t m F G j a1 b1) (hj : j ≤ m) (hm : m < 32) (hse : s < e) (be : e ≤ 64) : ta_F a b c (upd a1 (32 * t + j) (nI s)) (upd b1 (32 * t + j) (nI e)) (upd c t (nI (m + 1))) t ∧ ta_T (upd a1 (32 * t + j) (nI s)) (upd b1 (32 * t + j) (nI e)) (upd c t (nI (m + 1))) t (m + 1) (ta_in F j s) (ta_in G j e) := by
  refine ⟨⟨fun p hp => ?_, fun x hx => pk_un hx⟩, pk_us, hm, fun i hi => ?_⟩
  · rw [pk_un (by omega), pk_un (by omega)]
    exact h.1 p hp
  · rcases Nat.lt_trichotomy i j with z | z | z
    · have q := hT.2.2 i (by omega)
      rw [pk_un (by omega), pk_un (by omega), ta_in1 z, ta_in1 z]
      exact ⟨(h.2.1 i z).1, (h.2.1 i z).2, q.2.2⟩
    · subst z
      rw [pk_us, pk_us, ta_in2, ta_in2]
      exact ⟨rfl, rfl, hse, be⟩
    · have q := hT.2.2 (i - 1) (by omega)
      rw [pk_un (by omega), pk_un (by omega), ta_in3 z, ta_in3 z]
      exact ⟨(h.2.2 i z (by omega)).1, (h.2.2 i z (by omega)).2, q.2.2⟩
theorem ta_xcb {post : Int32 → Prop} {a b c : Nat → Int32} {q : Int32} (p x y s e : Nat) (hq : q = nI p) (hp : p < 96) (ha : a p = nI x) (hb : b p = nI y) (bx : x ≤ 64) (bY : y ≤ 64) (bs : s ≤ 64) (be : e ≤ 64) (h1 : s < x ∨ (s = x ∧ y < e) → post 1) (h0 : ¬ (s < x ∨ (s = x ∧ y < e)) → post 0) : wpX_comesBefore post (a, b, c) (nI s) (nI e) q := by
  have vi : vp_in q 96 := pk_in p 96 hp hq
  exact ⟨vi, pk_lt s x (fun z => h1 (Or.inl z)) (fun z => ⟨vi, pk_eq s x (fun w => ⟨vi, pk_le e y (fun k => h0 (by omega)) (fun k => h1 (by omega)) rfl (ta_g p hq hb (by omega))⟩) (fun w => h0 (by omega)) rfl (ta_g p hq ha (by omega))⟩) rfl (ta_g p hq ha (by omega))⟩
theorem ta_m1 {n : Nat} (h : 0 < n) : nI n - 1 = nI (n - 1) := by
  obtain ⟨k, rfl⟩ : ∃ k, n = k + 1 := ⟨n - 1, by omega⟩
  exact nI_pred k
theorem ta_m2 {n : Nat} (h : 0 < n) : nI n + (-1) = nI (n - 1) := by
  obtain ⟨k, rfl⟩ : ∃ k, n = k + 1 := ⟨n - 1, by omega⟩
  exact pk_m1 k
theorem ta_xe {post : SX → Prop} {a b c a1 b1 : Nat → Int32} {t m j s e : Nat} {F G : Nat → Nat} (hT : ta_T a b c t m F G) (ht : t < 3) (h : ta_M a b t m F G j a1 b1) (hj : j ≤ m) (hm : m < 32) (hse : s < e) (be : e ≤ 64) (H : ∀ a' b' c' : Nat → Int32, ta_F a b c a' b' c' t → ta_T a' b' c' t (m + 1) (ta_in F j s) (ta_in G j e) → post (a', b', c')) : wX_insert_75 post (nI t) (nI s) (nI e) (nI (32 * t + j)) a1 b1 c := by
  have vi : vp_in (nI (32 * t + j)) 96 := pk_in (32 * t + j) 96 (by omega)
  have vt : vp_in (nI t) 3 := pk_in t 3 ht
  refine ⟨vi, fun a' ea => ⟨vi, fun b' eb => ⟨vt, vt, fun c' ec => ?_⟩⟩⟩
  rw [nI_clamp (by omega)] at ea eb
  rw [ta_c hT ht, nI_1, nI_clamp (by omega)] at ec
  subst ea eb ec
  have z := ta_Me hT h hj hm hse be
  exact H _ _ _ z.1 z.2
theorem ta_xil {post : SX → Prop} {a b c : Nat → Int32} {t m s e q : Nat} {F G : Nat → Nat} (hT : ta_T a b c t m F G) (ht : t < 3) (hm : m < 32) (hse : s < e) (be : e ≤ 64) (H : ∀ a' b' c' : Nat → Int32, ta_F a b c a' b' c' t → ta_T a' b' c' t (m + 1) (ta_in F q s) (ta_in G q e) → post (a', b', c')) : ∀ (j : Nat) (a1 b1 : Nat → Int32), j ≤ m → ta_M a b t m F G j a1 b1 → ta_ps F G s e j = q → wX_insert_17 post (nI t) (nI s) (nI e) (nI (32 * t)) (j + 1) (nI (32 * t + j)) a1 b1 c
  | 0, a1, b1, hj, h, hq => by
    subst hq
    exact pk_le (32 * t + 0) (32 * t) (fun _ => ta_xe hT ht h hj hm hse be H) (fun z => absurd z (by omega))
  | j + 1, a1, b1, hj, h, hq => by
    have g := h.2.1 j (by omega)
    have q0 := hT.2.2 j (by omega)
    have ei : nI (32 * t + (j + 1)) - 1 = nI (32 * t + j) := nI_pred (32 * t + j)
    have vi : vp_in (nI (32 * t + (j + 1)) - 1) 96 := pk_in (32 * t + j) 96 (by omega) ei
    have vj : vp_in (nI (32 * t + (j + 1))) 96 := pk_in (32 * t + (j + 1)) 96 (by omega)
    rw [ta_ps] at hq
    refine pk_le (32 * t + (j + 1)) (32 * t) (fun z => absurd z (by omega)) (fun _ => ?_)
    refine ta_xcb (32 * t + j) (F j) (G j) s e ei (by omega) g.1 g.2 (by omega) (by omega) (by omega) (by omega) (fun z => br_f ta_10 ?_) (fun z => br_t rfl ?_)
    · rw [if_pos z] at hq
      refine ⟨vi, vj, fun a' ea => ⟨vi, vj, fun b' eb => nm_r (pk_m1 (32 * t + j)) ?_⟩⟩
      rw [ei, nI_clamp (by omega), nI_clamp (by omega)] at ea eb
      subst ea eb
      exact ta_xil hT ht hm hse be H j _ _ (by omega) (ta_Ms h hj hm) hq
    · rw [if_neg z] at hq
      subst hq
      exact ta_xe hT ht h hj hm hse be H
theorem ta_xi {post : SX → Prop} {a b c : Nat → Int32} {t m s e : Nat} {F G : Nat → Nat} (hT : ta_T a b c t m F G) (ht : t < 3) (hm : m < 32) (hse : s < e) (be : e ≤ 64) (H : ∀ a' b' c' : Nat → Int32, ta_F a b c a' b' c' t → ta_T a' b' c' t (m + 1) (ta_in F (ta_ps F G s e m) s) (ta_in G (ta_ps F G s e m) e) → post (a', b', c')) : wpX_insert post (a, b, c) (nI t) (nI s) (nI e) := by
  refine nm_r (ta_p0 t) ⟨pk_in t 3 ht, nm_r (e' := nI (32 * t + m)) ?_ ⟨m + 1, ?_⟩⟩
  · rw [ta_c hT ht, nI_add]
  · exact ta_xil hT ht hm hse be H m a b (Nat.le_refl m) (ta_M0 hT) rfl
theorem ta_ye {post : SY → Prop} {a b c mk a1 b1 : Nat → Int32} {t m j s e : Nat} {F G : Nat → Nat} (hT : ta_T a b c t m F G) (ht : t < 3) (h : ta_M a b t m F G j a1 b1) (hj : j ≤ m) (hm : m < 32) (hse : s < e) (be : e ≤ 64) (H : ∀ a' b' c' : Nat → Int32, ta_F a b c a' b' c' t → ta_T a' b' c' t (m + 1) (ta_in F j s) (ta_in G j e) → post (a', b', c', mk)) : wY_insert_98 post (nI t) (nI s) (nI e) (nI j) a1 b1 c mk := by
  have vi : vp_in (nI t * 32 + nI j) 96 := pk_in (32 * t + j) 96 (by omega) (ta_pl t j)
  have vt : vp_in (nI t) 3 := pk_in t 3 ht
  refine ⟨vi, fun a' ea => ⟨vi, fun b' eb => ⟨vt, vt, fun c' ec => ?_⟩⟩⟩
  rw [ta_pl, nI_clamp (by omega)] at ea eb
  rw [ta_c hT ht, nI_1, nI_clamp (by omega)] at ec
  subst ea eb ec
  have z := ta_Me hT h hj hm hse be
  exact H _ _ _ z.1 z.2
theorem ta_yil {post : SY → Prop} {a b c mk : Nat → Int32} {t m s e q : Nat} {F G : Nat → Nat} (hT : ta_T a b c t m F G) (ht : t < 3) (hm : m < 32) (hse : s < e) (be : e ≤ 64) (H : ∀ a' b' c' : Nat → Int32, ta_F a b c a' b' c' t → ta_T a' b' c' t (m + 1) (ta_in F q s) (ta_in G q e) → post (a', b', c', mk)) : ∀ (j : Nat) (a1 b1 : Nat → Int32), j ≤ m → ta_M a b t m F G j a1 b1 → ta_ps F G s e j = q → wY_insert_8 post (nI t) (nI s) (nI e) (j + 1) (nI j) a1 b1 c mk
  | 0, a1, b1, hj, h, hq => by
    subst hq
    exact pk_le 0 0 (fun _ => ta_ye hT ht h hj hm hse be H) (fun z => absurd z (by omega))
  | j + 1, a1, b1, hj, h, hq => by
    have g := h.2.1 j (by omega)
    have q0 := hT.2.2 j (by omega)
    have ei : nI t * 32 + nI (j + 1) - 1 = nI (32 * t + j) := by rw [ta_pl]; exact nI_pred (32 * t + j)
    have vi : vp_in (nI (32 * t + j)) 96 := pk_in (32 * t + j) 96 (by omega)
    have vj : vp_in (nI (32 * t + j) + 1) 96 := pk_in (32 * t + (j + 1)) 96 (by omega) (nI_1 _)
    have go : ta_ps F G s e j = q → wY_insert_60 post (wY_insert_8 post (nI t) (nI s) (nI e) (j + 1)) (nI t) (nI s) (nI e) (nI (j + 1)) (nI (32 * t + j)) a1 b1 c mk := by
      intro hq
      refine ⟨vi, vj, fun a' ea => ⟨vi, vj, fun b' eb => nm_r (pk_m1 j) ?_⟩⟩
      rw [nI_1, nI_clamp (by omega), nI_clamp (by omega)] at ea eb
      subst ea eb
      exact ta_yil hT ht hm hse be H j _ _ (by omega) (ta_Ms h hj hm) hq
    have stop : j + 1 = q → wY_insert_98 post (nI t) (nI s) (nI e) (nI (j + 1)) a1 b1 c mk := by
      intro hq
      subst hq
      exact ta_ye hT ht h hj hm hse be H
    rw [ta_ps] at hq
    refine pk_le (j + 1) 0 (fun z => absurd z (by omega)) (fun _ => nm_r ei ⟨vi, pk_lt (F j) s (fun z => ?_) (fun z => ⟨vi, pk_eq (F j) s (fun w => ⟨vi, pk_lt (G j) e (fun y => ?_) (fun y => ?_) (ta_g _ rfl g.2 (by omega)) rfl⟩) (fun w => ?_) (ta_g _ rfl g.1 (by omega)) rfl⟩) (ta_g _ rfl g.1 (by omega)) rfl⟩)
    · rw [if_neg (by omega)] at hq
      exact stop hq
    · rw [if_pos (by omega)] at hq
      exact go hq
    · rw [if_neg (by omega)] at hq
      exact stop hq
    · rw [if_pos (by omega)] at hq
      exact go hq
theorem ta_yi {post : SY → Prop} {a b c mk : Nat → Int32} {t m s e : Nat} {F G : Nat → Nat} (hT : ta_T a b c t m F G) (ht : t < 3) (hm : m < 32) (hse : s < e) (be : e ≤ 64) (H : ∀ a' b' c' : Nat → Int32, ta_F a b c a' b' c' t → ta_T a' b' c' t (m + 1) (ta_in F (ta_ps F G s e m) s) (ta_in G (ta_ps F G s e m) e) → post (a', b', c', mk)) : wpY_insert post (a, b, c, mk) (nI t) (nI s) (nI e) :=
  ⟨pk_in t 3 ht, nm_r (ta_c hT ht) ⟨m + 1, ta_yil hT ht hm hse be H m a b (Nat.le_refl m) (ta_M0 hT) rfl⟩⟩
theorem i_vc_add {k : Nat} {u : SX} {v : SY} (I : i_Rel k u v) (hk : k + 5 ≤ 2560) (v1 : Int32) (v2 : Int32) : wpX_add (fun r u' => wpY_add (fun r' v' => r' = r ∧ i_Rel (k + 5) u' v') v v1 v2) u v1 v2 := by
  obtain ⟨a, b, c⟩ := u
  obtain ⟨f, g, h, mk⟩ := v
  unfold wpX_add wpY_add
  dsimp only
  rcases ta_trk v1 with ⟨hx, hy⟩ | ⟨t, ht, rfl, hx, hy⟩
  · exact hx _ (br_t rfl (hy _ _ (br_f ta_10 ⟨rfl, i_up I⟩)))
  · obtain ⟨m, F, G, hX, hY⟩ := ta_I I ht
    have hm := hX.2.1
    have vt : vp_in (nI t) 3 := pk_in t 3 ht
    rcases ta_str v2 with ⟨kx, ky⟩ | ⟨s, e, hse, be, hq, hr, kx, ky⟩
    · exact hx _ (br_f ta_10 (kx _ (br_t rfl (hy _ _ (br_t rfl (ky _ _ (br_f ta_10 ⟨rfl, i_up I⟩)))))))
    · refine hx _ (br_f ta_10 (kx _ (br_f ta_10 ⟨vt, pk_lt m 32 (fun z => ⟨ta_65, ta_65, ?_⟩) (fun z => ?_) (ta_c hX ht) rfl⟩)))
      · rw [hr, hq]
        refine ta_xi hX ht z hse be (fun a' b' c' x1 x2 => ⟨vt, hy _ _ (br_t rfl (ky _ _ (br_t rfl ⟨vt, pk_lt m 32 (fun _ => ⟨ta_65, ta_65, ?_⟩) (fun w => absurd w (by omega)) (ta_c hY ht) rfl⟩)))⟩)
        exact ta_yi hY ht z hse be (fun f' g' h' y1 y2 => ⟨vt, (ta_c y2 ht).trans (ta_c x2 ht).symm, ta_R I x1 y1 x2 y2 _⟩)
      · exact hy _ _ (br_t rfl (ky _ _ (br_t rfl ⟨vt, pk_lt m 32 (fun w => absurd w (by omega)) (fun _ => ⟨rfl, i_up I⟩) (ta_c hY ht) rfl⟩)))
end
section
/-! ===== repeat ===== -/
theorem ta_rpi {s k : Nat} {x : Int32} (bs : s ≤ 64) (hk : k ≤ 32) (h1 : ¬ x < -64) (h2 : x ≤ 64) : (nI s + nI k * x).toInt = (s : Int) + k * x.toInt ∧ -2048 ≤ (k : Int) * x.toInt ∧ (k : Int) * x.toInt ≤ 2048 := by
  have y1 : -64 ≤ x.toInt := by
    rw [Int32.lt_iff_toInt_lt, show (-64 : Int32).toInt = -64 from by decide] at h1
    omega
  have y2 : x.toInt ≤ 64 := by
    rw [Int32.le_iff_toInt_le, show (64 : Int32).toInt = 64 from by decide] at h2
    exact h2
  have b1 : (k : Int) * x.toInt ≤ (k : Int) * 64 := Int.mul_le_mul_of_nonneg_left y2 (by omega)
  have b2 : (k : Int) * (-64) ≤ (k : Int) * x.toInt := Int.mul_le_mul_of_nonneg_left y1 (by omega)
  have e1 : (nI k * x).toInt = (k : Int) * x.toInt := by
    rw [Int32.toInt_mul, nI_toInt (by omega)]
    exact Int.bmod_eq_of_le (by omega) (by omega)
  refine ⟨?_, by omega, by omega⟩
  rw [Int32.toInt_add, e1, nI_toInt (by omega)]
  exact Int.bmod_eq_of_le (by omega) (by omega)
theorem ta_rpv {s e k : Nat} {x : Int32} (hse : s < e) (be : e ≤ 64) (hk : k ≤ 32) (h1 : ¬ x < -64) (h2 : x ≤ 64) (z : ¬ nI s + nI k * x < 0) (w : ¬ 64 < nI e + nI k * x) : ∃ s1 e1 : Nat, s1 < e1 ∧ e1 ≤ 64 ∧ nI s + nI k * x = nI s1 ∧ nI e + nI k * x = nI e1 := by
  obtain ⟨p1, p2, p3⟩ := ta_rpi (s := s) (by omega) hk h1 h2
  obtain ⟨q1, _, _⟩ := ta_rpi (s := e) be hk h1 h2
  rw [Int32.lt_iff_toInt_lt, p1, show (0 : Int32).toInt = 0 from by decide] at z
  rw [Int32.lt_iff_toInt_lt, q1, show (64 : Int32).toInt = 64 from by decide] at w
  generalize (k : Int) * x.toInt = y at *
  refine ⟨((s : Int) + y).toNat, ((e : Int) + y).toNat, by omega, by omega, ?_, ?_⟩
  · apply Int32.toInt_inj.mp
    rw [p1, nI_toInt (by omega)]
    omega
  · apply Int32.toInt_inj.mp
    rw [q1, nI_toInt (by omega)]
    omega
theorem ta_rpl {t s e N : Nat} {x y : Int32} (ht : t < 3) (hse : s < e) (be : e ≤ 64) (hq : x / 65 = nI s) (hr : x - x / 65 * 65 = nI e) (h1 : ¬ y < -64) (h2 : y ≤ 64) (hN : N ≤ 32) : ∀ (d k m : Nat) (F G : Nat → Nat), k + d = N → ∃ (m' : Nat) (F' G' : Nat → Nat),
    (∀ (a b c : Nat → Int32) (post : Int32 → SX → Prop), ta_T a b c t m F G → (∀ a' b' c' : Nat → Int32, ta_F a b c a' b' c' t → ta_T a' b' c' t m' F' G' → post (nI m') (a', b', c')) → wX_repeat_53 post (nI t) x y (nI N) (d + 1) (nI k) a b c) ∧
    (∀ (a b c mk : Nat → Int32) (post : Int32 → SY → Prop), ta_T a b c t m F G → (∀ a' b' c' : Nat → Int32, ta_F a b c a' b' c' t → ta_T a' b' c' t m' F' G' → post (nI m') (a', b', c', mk)) → wY_repeat_55 post (nI t) x y (nI N) (d + 1) (nI k) a b c mk)
  | 0, k, m, F, G, hd => by
    obtain rfl : k = N := by omega
    refine ⟨m, F, G, fun a b c post hT H => pk_le k k (fun _ => ⟨pk_in t 3 ht, ?_⟩) (fun z => absurd z (by omega)), fun a b c mk post hT H => pk_le k k (fun _ => ⟨pk_in t 3 ht, ?_⟩) (fun z => absurd z (by omega))⟩
    · rw [ta_c hT ht]
      exact H a b c ta_Fr hT
    · rw [ta_c hT ht]
      exact H a b c ta_Fr hT
  | d + 1, k, m, F, G, hd => by
    have e6 : x / 65 + nI k * y = nI s + nI k * y := by rw [hq]
    have e7 : x - x / 65 * 65 + nI k * y = nI e + nI k * y := by rw [hr]
    by_cases z : nI s + nI k * y < 0
    · obtain ⟨m', F', G', gX, gY⟩ := ta_rpl ht hse be hq hr h1 h2 hN d (k + 1) m F G (by omega)
      exact ⟨m', F', G', fun a b c post hT H => pk_le N k (fun w => absurd w (by omega)) (fun _ => ⟨ta_65, nm_r e6 ⟨ta_65, nm_r e7 (br_t z (nm_r (nI_1 k) (gX a b c post hT H)))⟩⟩),
        fun a b c mk post hT H => pk_le N k (fun w => absurd w (by omega)) (fun _ => ⟨ta_65, nm_r e6 ⟨ta_65, nm_r e7 (br_t z (nm_r (nI_1 k) (gY a b c mk post hT H)))⟩⟩)⟩
    · by_cases w : 64 < nI e + nI k * y
      · obtain ⟨m', F', G', gX, gY⟩ := ta_rpl ht hse be hq hr h1 h2 hN d (k + 1) m F G (by omega)
        exact ⟨m', F', G', fun a b c post hT H => pk_le N k (fun w => absurd w (by omega)) (fun _ => ⟨ta_65, nm_r e6 ⟨ta_65, nm_r e7 (br_f z (br_t w (nm_r (nI_1 k) (gX a b c post hT H))))⟩⟩),
          fun a b c mk post hT H => pk_le N k (fun w => absurd w (by omega)) (fun _ => ⟨ta_65, nm_r e6 ⟨ta_65, nm_r e7 (br_f z (br_t w (nm_r (nI_1 k) (gY a b c mk post hT H))))⟩⟩)⟩
      · by_cases y3 : 32 ≤ m
        · obtain ⟨m', F', G', gX, gY⟩ := ta_rpl ht hse be hq hr h1 h2 hN d (k + 1) m F G (by omega)
          refine ⟨m', F', G', fun a b c post hT H => ?_, fun a b c mk post hT H => ?_⟩
          · have hm := hT.2.1
            exact pk_le N k (fun w => absurd w (by omega)) (fun _ => ⟨ta_65, nm_r e6 ⟨ta_65, nm_r e7 (br_f z (br_f w ⟨pk_in t 3 ht, pk_le 32 m (fun _ => nm_r (nI_1 k) (gX a b c post hT H)) (fun q => absurd q (by omega)) rfl (ta_c hT ht)⟩))⟩⟩)
          · have hm := hT.2.1
            exact pk_le N k (fun w => absurd w (by omega)) (fun _ => ⟨ta_65, nm_r e6 ⟨ta_65, nm_r e7 (br_f z (br_f w ⟨pk_in t 3 ht, pk_le 32 m (fun _ => nm_r (nI_1 k) (gY a b c mk post hT H)) (fun q => absurd q (by omega)) rfl (ta_c hT ht)⟩))⟩⟩)
        · obtain ⟨s1, e1, b1, b2, f1, f2⟩ := ta_rpv hse be (by omega) h1 h2 z w
          obtain ⟨m', F', G', gX, gY⟩ := ta_rpl ht hse be hq hr h1 h2 hN d (k + 1) (m + 1) (ta_in F (ta_ps F G s1 e1 m) s1) (ta_in G (ta_ps F G s1 e1 m) e1) (by omega)
          refine ⟨m', F', G', fun a b c post hT H => ?_, fun a b c mk post hT H => ?_⟩
          · refine pk_le N k (fun w => absurd w (by omega)) (fun _ => ⟨ta_65, nm_r e6 ⟨ta_65, nm_r e7 (br_f z (br_f w ⟨pk_in t 3 ht, pk_le 32 m (fun q => absurd q (by omega)) (fun _ => ?_) rfl (ta_c hT ht)⟩))⟩⟩)
            rw [f1, f2]
            exact ta_xi hT ht (by omega) b1 b2 (fun a' b' c' x1 x2 => nm_r (nI_1 k) (gX a' b' c' post x2 (fun a2 b2 c2 x3 x4 => H a2 b2 c2 (ta_Ft x1 x3) x4)))
          · refine pk_le N k (fun w => absurd w (by omega)) (fun _ => ⟨ta_65, nm_r e6 ⟨ta_65, nm_r e7 (br_f z (br_f w ⟨pk_in t 3 ht, pk_le 32 m (fun q => absurd q (by omega)) (fun _ => ?_) rfl (ta_c hT ht)⟩))⟩⟩)
            rw [f1, f2]
            exact ta_yi hT ht (by omega) b1 b2 (fun a' b' c' x1 x2 => nm_r (nI_1 k) (gY a' b' c' mk post x2 (fun a2 b2 c2 x3 x4 => H a2 b2 c2 (ta_Ft x1 x3) x4)))
theorem i_vc_repeat {k : Nat} {u : SX} {v : SY} (I : i_Rel k u v) (hk : k + 5 ≤ 2560) (v1 : Int32) (v2 : Int32) (v3 : Int32) (v4 : Int32) : wpX_repeat (fun r u' => wpY_repeat (fun r' v' => r' = r ∧ i_Rel (k + 5) u' v') v v1 v2 v3 v4) u v1 v2 v3 v4 := by
  obtain ⟨a, b, c⟩ := u
  obtain ⟨f, g, h, mk⟩ := v
  unfold wpX_repeat wpY_repeat
  dsimp only
  rcases ta_trk v1 with ⟨hx, hy⟩ | ⟨t, ht, rfl, hx, hy⟩
  · exact hx _ (br_t rfl (hy _ _ (br_f ta_10 ⟨rfl, i_up I⟩)))
  · obtain ⟨m, F, G, hX, hY⟩ := ta_I I ht
    rcases ta_str v2 with ⟨kx, ky⟩ | ⟨s, e, hse, be, hq, hr, kx, ky⟩
    · exact hx _ (br_f ta_10 (kx _ (br_t rfl (hy _ _ (br_t rfl (ky _ _ (br_f ta_10 ⟨rfl, i_up I⟩)))))))
    · refine hx _ (br_f ta_10 (kx _ (br_f ta_10 ?_)))
      by_cases h1 : v3 < -64
      · exact br_t h1 (hy _ _ (br_t rfl (ky _ _ (br_t rfl (br_t h1 ⟨rfl, i_up I⟩)))))
      · by_cases h2 : v3 ≤ 64
        · by_cases h3 : v4 < 1
          · exact br_f h1 (br_t h2 (br_t h3 (hy _ _ (br_t rfl (ky _ _ (br_t rfl (br_f h1 (br_t h2 (br_t h3 ⟨rfl, i_up I⟩)))))))))
          · by_cases h4 : v4 ≤ 32
            · have h0 : ¬ v4 < 0 := fun z => h3 (Int32.lt_trans z (by decide))
              obtain ⟨N, hN, rfl⟩ := nI_of2 (n := 32) (by decide) h0 h4
              obtain ⟨m', F', G', gX, gY⟩ := ta_rpl ht hse be hq hr h1 h2 hN N 0 m F G (by omega)
              refine br_f h1 (br_t h2 (br_f h3 (br_t h4 ⟨N + 1, gX a b c _ hX (fun a' b' c' x1 x2 => ?_)⟩)))
              refine hy _ _ (br_t rfl (ky _ _ (br_t rfl (br_f h1 (br_t h2 (br_f h3 (br_t h4 ⟨N + 1, gY f g h mk _ hY (fun f' g' h' y1 y2 => ?_)⟩)))))))
              exact ⟨rfl, ta_R I x1 y1 x2 y2 _⟩
            · exact br_f h1 (br_t h2 (br_f h3 (br_f h4 (hy _ _ (br_t rfl (ky _ _ (br_t rfl (br_f h1 (br_t h2 (br_f h3 (br_f h4 ⟨rfl, i_up I⟩)))))))))))
        · exact br_f h1 (br_f h2 (hy _ _ (br_t rfl (ky _ _ (br_t rfl (br_f h1 (br_f h2 ⟨rfl, i_up I⟩)))))))
/-! ===== remove ===== -/
def ta_rm (F : Nat → Nat) (i j : Nat) : Nat := if j < i then F j else F (j + 1)
theorem ta_rm1 {F : Nat → Nat} {i j : Nat} (h : j < i) : ta_rm F i j = F j := if_pos h
theorem ta_rm2 {F : Nat → Nat} {i j : Nat} (h : i ≤ j) : ta_rm F i j = F (j + 1) := if_neg (by omega)
def ta_D (a b : Nat → Int32) (t m : Nat) (F G : Nat → Nat) (i j : Nat) (a1 b1 : Nat → Int32) : Prop :=
  (∀ p, (p < 32 * t ∨ 32 * t + 32 ≤ p) → a1 p = a p ∧ b1 p = b p) ∧ (∀ l, l < j → a1 (32 * t + l) = nI (ta_rm F i l) ∧ b1 (32 * t + l) = nI (ta_rm G i l)) ∧ (∀ l, j ≤ l → l < m → a1 (32 * t + l) = nI (F l) ∧ b1 (32 * t + l) = nI (G l))
theorem ta_D0 {a b c : Nat → Int32} {t m i : Nat} {F G : Nat → Nat} (hT : ta_T a b c t m F G) (hi : i < m) : ta_D a b t m F G i i a b :=
  ⟨fun _ _ => ⟨rfl, rfl⟩, fun l hl => by rw [ta_rm1 hl, ta_rm1 hl]; exact ⟨(hT.2.2 l (by omega)).1, (hT.2.2 l (by omega)).2.1⟩, fun l _ hl => ⟨(hT.2.2 l hl).1, (hT.2.2 l hl).2.1⟩⟩
theorem ta_Ds {a b a1 b1 : Nat → Int32} {t m i j : Nat} {F G : Nat → Nat} (h : ta_D a b t m F G i j a1 b1) (hi : i ≤ j) (hj : j + 1 < m) (hm : m ≤ 32) : ta_D a b t m F G i (j + 1) (upd a1 (32 * t + j) (a1 (32 * t + (j + 1)))) (upd b1 (32 * t + j) (b1 (32 * t + (j + 1)))) := by
  refine ⟨fun p hp => ?_, fun l hl => ?_, fun l h1 h2 => ?_⟩
  · rw [pk_un (by omega), pk_un (by omega)]
    exact h.1 p hp
  · by_cases e : l = j
    · subst e
      rw [pk_us, pk_us, ta_rm2 hi, ta_rm2 hi]
      exact h.2.2 (l + 1) (by omega) hj
    · rw [pk_un (by omega), pk_un (by omega)]
      exact h.2.1 l (by omega)
  · rw [pk_un (by omega), pk_un (by omega)]
    exact h.2.2 l (by omega) h2
theorem ta_De {a b c a1 b1 : Nat → Int32} {t m i j : Nat} {F G : Nat → Nat} (hT : ta_T a b c t m F G) (h : ta_D a b t m F G i j a1 b1) (hj : j + 1 = m) : ta_F a b c a1 b1 (upd c t (nI (m - 1))) t ∧ ta_T a1 b1 (upd c t (nI (m - 1))) t (m - 1) (ta_rm F i) (ta_rm G i) := by
  have hm := hT.2.1
  refine ⟨⟨fun p hp => h.1 p hp, fun x hx => pk_un hx⟩, pk_us, by omega, fun l hl => ?_⟩
  have z := h.2.1 l (by omega)
  refine ⟨z.1, z.2, ?_⟩
  by_cases w : l < i
  · rw [ta_rm1 w, ta_rm1 w]
    exact (hT.2.2 l (by omega)).2.2
  · rw [ta_rm2 (by omega), ta_rm2 (by omega)]
    exact (hT.2.2 (l + 1) (by omega)).2.2
theorem ta_xrl {post : Int32 → SX → Prop} {a b c : Nat → Int32} {t m i : Nat} {F G : Nat → Nat} (hT : ta_T a b c t m F G) (ht : t < 3) (H : ∀ a' b' c' : Nat → Int32, ta_F a b c a' b' c' t → ta_T a' b' c' t (m - 1) (ta_rm F i) (ta_rm G i) → post (nI (m - 1)) (a', b', c')) : ∀ (d j : Nat) (a1 b1 : Nat → Int32), j + d + 1 = m → i ≤ j → ta_D a b t m F G i j a1 b1 → wX_remove_43 post (nI t) (nI (32 * t + m - 1)) (d + 1) (nI (32 * t + j)) a1 b1 c
  | 0, j, a1, b1, hj, hi, h => by
    have hm := hT.2.1
    have vt : vp_in (nI t) 3 := pk_in t 3 ht
    refine pk_le (32 * t + m - 1) (32 * t + j) (fun _ => ⟨vt, vt, fun c' ec => ⟨vt, ?_⟩⟩) (fun z => absurd z (by omega))
    rw [ta_c hT ht, ta_m1 (by omega), nI_clamp (by omega)] at ec
    subst ec
    have z := ta_De hT h (by omega)
    rw [ta_c z.2 ht]
    exact H _ _ _ z.1 z.2
  | d + 1, j, a1, b1, hj, hi, h => by
    have hm := hT.2.1
    have vj : vp_in (nI (32 * t + j)) 96 := pk_in (32 * t + j) 96 (by omega)
    have vk : vp_in (nI (32 * t + j) + 1) 96 := pk_in (32 * t + (j + 1)) 96 (by omega) (nI_1 _)
    refine pk_le (32 * t + m - 1) (32 * t + j) (fun z => absurd z (by omega)) (fun _ => ⟨vk, vj, fun a' ea => ⟨vk, vj, fun b' eb => nm_r (nI_1 _) ?_⟩⟩)
    rw [nI_1, nI_clamp (by omega), nI_clamp (by omega)] at ea eb
    subst ea eb
    exact ta_xrl hT ht H d (j + 1) _ _ (by omega) (by omega) (ta_Ds h hi (by omega) hm)
theorem ta_ydl {post : SY → Prop} {a b c mk : Nat → Int32} {t m i : Nat} {F G : Nat → Nat} (hT : ta_T a b c t m F G) (ht : t < 3) (H : ∀ a' b' c' : Nat → Int32, ta_F a b c a' b' c' t → ta_T a' b' c' t (m - 1) (ta_rm F i) (ta_rm G i) → post (a', b', c', mk)) : ∀ (d j : Nat) (a1 b1 : Nat → Int32), j + d + 1 = m → i ≤ j → ta_D a b t m F G i j a1 b1 → wY_drop_2 post (nI t) (d + 1) (nI j) a1 b1 c mk
  | 0, j, a1, b1, hj, hi, h => by
    have hm := hT.2.1
    have vt : vp_in (nI t) 3 := pk_in t 3 ht
    refine ⟨vt, pk_le m (j + 1) (fun _ => ⟨vt, vt, fun c' ec => ?_⟩) (fun z => absurd z (by omega)) (ta_c hT ht) (nI_1 j)⟩
    rw [ta_c hT ht, ta_m1 (by omega), nI_clamp (by omega)] at ec
    subst ec
    have z := ta_De hT h (by omega)
    exact H _ _ _ z.1 z.2
  | d + 1, j, a1, b1, hj, hi, h => by
    have hm := hT.2.1
    have ek : nI t * 32 + nI j + 1 = nI (32 * t + (j + 1)) := by rw [ta_pl]; exact nI_1 _
    have vt : vp_in (nI t) 3 := pk_in t 3 ht
    have vj : vp_in (nI t * 32 + nI j) 96 := pk_in (32 * t + j) 96 (by omega) (ta_pl t j)
    have vk : vp_in (nI t * 32 + nI j + 1) 96 := pk_in (32 * t + (j + 1)) 96 (by omega) ek
    refine ⟨vt, pk_le m (j + 1) (fun z => absurd z (by omega)) (fun _ => ⟨vk, vj, fun a' ea => ⟨vk, vj, fun b' eb => nm_r (nI_1 _) ?_⟩⟩) (ta_c hT ht) (nI_1 j)⟩
    rw [ek, ta_pl, nI_clamp (by omega), nI_clamp (by omega)] at ea eb
    subst ea eb
    exact ta_ydl hT ht H d (j + 1) _ _ (by omega) (by omega) (ta_Ds h hi (by omega) hm)
theorem ta_ydr {post : SY → Prop} {a b c mk : Nat → Int32} {t m i : Nat} {F G : Nat → Nat} (hT : ta_T a b c t m F G) (ht : t < 3) (hi : i < m) (H : ∀ a' b' c' : Nat → Int32, ta_F a b c a' b' c' t → ta_T a' b' c' t (m - 1) (ta_rm F i) (ta_rm G i) → post (a', b', c', mk)) : wpY_drop post (a, b, c, mk) (nI t) (nI i) :=
  ⟨m - 1 - i + 1, ta_ydl hT ht H (m - 1 - i) i a b (by omega) (Nat.le_refl i) (ta_D0 hT hi)⟩
theorem i_vc_remove {k : Nat} {u : SX} {v : SY} (I : i_Rel k u v) (hk : k + 5 ≤ 2560) (v1 : Int32) (v2 : Int32) : wpX_remove (fun r u' => wpY_remove (fun r' v' => r' = r ∧ i_Rel (k + 5) u' v') v v1 v2) u v1 v2 := by
  obtain ⟨a, b, c⟩ := u
  obtain ⟨f, g, h, mk⟩ := v
  unfold wpX_remove wpY_remove
  dsimp only
  rcases ta_trk v1 with ⟨hx, hy⟩ | ⟨t, ht, rfl, hx, hy⟩
  · exact hx _ (br_t rfl (hy _ _ (br_f ta_10 ⟨rfl, i_up I⟩)))
  · obtain ⟨m, F, G, hX, hY⟩ := ta_I I ht
    have vt : vp_in (nI t) 3 := pk_in t 3 ht
    rcases ta_num (mk := mk) hX hY ht v2 with ⟨kx, ky⟩ | ⟨i, hi, rfl, kx, ky⟩
    · exact hx _ (br_f ta_10 (kx _ (br_t rfl (hy _ _ (br_t rfl (ky _ (br_f ta_10 ⟨rfl, i_up I⟩)))))))
    · have hm := hX.2.1
      refine hx _ (br_f ta_10 (kx _ (br_f ta_10 ⟨vt, nm_r (e' := nI (32 * t + m - 1)) ?_ (nm_r (ta_pl t i) ⟨m - 1 - i + 1, ?_⟩)⟩)))
      · rw [ta_c hX ht, ta_pl, ta_m1 (by omega)]
      · refine ta_xrl hX ht (fun a' b' c' x1 x2 => hy _ _ (br_t rfl (ky _ (br_t rfl ?_)))) (m - 1 - i) i a b (by omega) (Nat.le_refl i) (ta_D0 hX hi)
        exact ta_ydr hY ht hi (fun f' g' h' y1 y2 => ⟨vt, ta_c y2 ht, ta_R I x1 y1 x2 y2 _⟩)
end
section
/-! ===== clear ===== -/
def ta_kp (F G : Nat → Nat) (s e i : Nat) : Bool := decide (¬ (s ≤ F i ∧ G i ≤ e))
theorem ta_kpt {F G : Nat → Nat} {s e i : Nat} (h : ¬ (s ≤ F i ∧ G i ≤ e)) : ta_kp F G s e i = true := decide_eq_true h
theorem ta_kpf {F G : Nat → Nat} {s e i : Nat} (h : s ≤ F i ∧ G i ≤ e) : ta_kp F G s e i = false := decide_eq_false (fun z => z h)
theorem ta_cnd {p : Nat → Bool} {i : Nat} : ∀ d, ta_cn p (i + d) ≤ ta_cn p i + d
  | 0 => Nat.le_refl _
  | d + 1 => by
    have h := ta_cnd (p := p) (i := i) d
    have e : i + (d + 1) = (i + d) + 1 := by omega
    rw [e]
    cases z : p (i + d)
    · rw [ta_cnf z]; omega
    · rw [ta_cnt z]; omega
theorem ta_cnm {p : Nat → Bool} {i j : Nat} (h : i ≤ j) : ta_cn p i ≤ ta_cn p j := by
  have z := ta_cnmono (p := p) (i := i) (j - i)
  rw [show i + (j - i) = j by omega] at z
  exact z
theorem ta_cnlt {p : Nat → Bool} {i j : Nat} (h : i < j) (hp : p i = true) : ta_cn p i < ta_cn p j := by
  have z := ta_cnm (p := p) (i := i + 1) (j := j) h
  rw [ta_cnt hp] at z
  omega
theorem ta_cns {p : Nat → Bool} : ∀ m l, l < ta_cn p m → ∃ j, j < m ∧ p j = true ∧ ta_cn p j = l
  | 0, l, h => absurd h (Nat.not_lt_zero _)
  | m + 1, l, h => by
    cases z : p m
    · rw [ta_cnf z] at h
      obtain ⟨j, h1, h2, h3⟩ := ta_cns m l h
      exact ⟨j, by omega, h2, h3⟩
    · rw [ta_cnt z] at h
      by_cases e : l = ta_cn p m
      · exact ⟨m, by omega, z, e.symm⟩
      · obtain ⟨j, h1, h2, h3⟩ := ta_cns (p := p) m l (by omega)
        exact ⟨j, by omega, h2, h3⟩
def ta_C (a b : Nat → Int32) (t m : Nat) (F G : Nat → Nat) (p : Nat → Bool) (i : Nat) (a1 b1 : Nat → Int32) : Prop :=
  (∀ q, (q < 32 * t ∨ 32 * t + 32 ≤ q) → a1 q = a q ∧ b1 q = b q) ∧ (∀ j, j < i → p j = true → a1 (32 * t + ta_cn p j) = nI (F j) ∧ b1 (32 * t + ta_cn p j) = nI (G j)) ∧ (∀ j, i ≤ j → j < m → a1 (32 * t + j) = nI (F j) ∧ b1 (32 * t + j) = nI (G j))
theorem ta_xcl {post : Int32 → SX → Prop} {a b c : Nat → Int32} {t m s e : Nat} {F G : Nat → Nat} (hT : ta_T a b c t m F G) (ht : t < 3) (bs : s ≤ 64) (be : e ≤ 64) (H : ∀ a' b' c' : Nat → Int32, ta_F a b c a' b' c' t → c' t = nI (ta_cn (ta_kp F G s e) m) → (∀ j, j < m → ta_kp F G s e j = true → a' (32 * t + ta_cn (ta_kp F G s e) j) = nI (F j) ∧ b' (32 * t + ta_cn (ta_kp F G s e) j) = nI (G j)) → post (nI (m - ta_cn (ta_kp F G s e) m)) (a', b', c')) : ∀ (d i : Nat) (a1 b1 : Nat → Int32), i + d = m → ta_C a b t m F G (ta_kp F G s e) i a1 b1 → wX_clear_50 post (nI t) (nI s) (nI e) (nI (32 * t)) (nI m) (d + 1) (nI (ta_cn (ta_kp F G s e) i)) (nI i) a1 b1 c
  | 0, i, a1, b1, hi, h => by
    have hm := hT.2.1
    obtain rfl : i = m := by omega
    refine pk_le i i (fun _ => ⟨pk_in t 3 ht, fun c' ec => ?_⟩) (fun z => absurd z (by omega))
    rw [nI_clamp (by omega)] at ec
    subst ec
    rw [pk_sub (ta_cnle _ i)]
    exact H a1 b1 _ ⟨fun q hq => h.1 q hq, fun x hx => pk_un hx⟩ pk_us (fun j hj hp => h.2.1 j hj hp)
  | d + 1, i, a1, b1, hi, h => by
    have hm := hT.2.1
    have q := hT.2.2 i (by omega)
    have g := h.2.2 i (Nat.le_refl i) (by omega)
    have hc := ta_cnle (ta_kp F G s e) i
    have ei : nI (32 * t) + nI i = nI (32 * t + i) := nI_add _ _
    have ek : nI (32 * t) + nI (ta_cn (ta_kp F G s e) i) = nI (32 * t + ta_cn (ta_kp F G s e) i) := nI_add _ _
    have vi : vp_in (nI (32 * t) + nI i) 96 := pk_in (32 * t + i) 96 (by omega) ei
    have vk : vp_in (nI (32 * t) + nI (ta_cn (ta_kp F G s e) i)) 96 := pk_in (32 * t + ta_cn (ta_kp F G s e) i) 96 (by omega) ek
    refine pk_le m i (fun z => absurd z (by omega)) (fun _ => ⟨vi, nm_r (ta_g _ ei g.1 (by omega)) ⟨vi, nm_r (ta_g _ ei g.2 (by omega)) ?_⟩⟩)
    have keep : ¬ (s ≤ F i ∧ G i ≤ e) → ∀ a' : Nat → Int32, a' = upd a1 (nI (32 * t) + nI (ta_cn (ta_kp F G s e) i)).toNatClampNeg (nI (F i)) → vp_in (nI (32 * t) + nI (ta_cn (ta_kp F G s e) i)) 96 ∧ ∀ b' : Nat → Int32, b' = upd b1 (nI (32 * t) + nI (ta_cn (ta_kp F G s e) i)).toNatClampNeg (nI (G i)) → ∀ x7 : Int32, x7 = nI (ta_cn (ta_kp F G s e) i) + 1 → ∀ x8 : Int32, x8 = nI i + 1 → wX_clear_50 post (nI t) (nI s) (nI e) (nI (32 * t)) (nI m) (d + 1) x7 x8 a' b' c := by
      intro z a' ea
      refine ⟨vk, fun b' eb => nm_r (ta_n1 (ta_kpt z)) (nm_r (nI_1 i) ?_)⟩
      rw [ek, nI_clamp (by omega)] at ea eb
      subst ea eb
      refine ta_xcl hT ht bs be H d (i + 1) _ _ (by omega) ⟨fun p hp => ?_, fun j hj hp => ?_, fun j h1 h2 => ?_⟩
      · rw [pk_un (by omega), pk_un (by omega)]
        exact h.1 p hp
      · by_cases w : j = i
        · subst w
          rw [pk_us, pk_us]
          exact ⟨rfl, rfl⟩
        · have lt := ta_cnlt (j := i) (by omega) hp
          rw [pk_un (by omega), pk_un (by omega)]
          exact h.2.1 j (by omega) hp
      · rw [pk_un (by omega), pk_un (by omega)]
        exact h.2.2 j (by omega) h2
    refine pk_lt (F i) s (fun z => br_t rfl ⟨vk, keep (by omega)⟩) (fun z => pk_lt e (G i) (fun w => br_t rfl ⟨vk, keep (by omega)⟩) (fun w => br_f ta_10 (nm_r (nI_1 i) ?_)))
    have ih := ta_xcl hT ht bs be H d (i + 1) a1 b1 (by omega) ⟨h.1, fun j hj hp => ?_, fun j h1 h2 => h.2.2 j (by omega) h2⟩
    · rw [ta_cnf (ta_kpf ⟨z, w⟩)] at ih
      exact ih
    · by_cases y : j = i
      · subst y
        rw [ta_kpf ⟨z, w⟩] at hp
        exact absurd hp (by decide)
      · exact h.2.1 j (by omega) hp
theorem ta_yli {post : Int32 → Prop} {a b c mk : Nat → Int32} {t i s e : Nat} {x : Int32} (X Y : Nat) (ht : t < 3) (hi : i < 32) (ha : a (32 * t + i) = nI X) (hb : b (32 * t + i) = nI Y) (bX : X ≤ 64) (bY : Y ≤ 64) (bs : s ≤ 64) (be : e ≤ 64) (hq : x / 65 = nI s) (hr : x - x / 65 * 65 = nI e) (h1 : s ≤ X ∧ Y ≤ e → post 1) (h0 : ¬ (s ≤ X ∧ Y ≤ e) → post 0) : wpY_liesIn post (a, b, c, mk) (nI t) (nI i) x := by
  have vi : vp_in (nI t * 32 + nI i) 96 := pk_in (32 * t + i) 96 (by omega) (ta_pl t i)
  exact ⟨ta_65, vi, pk_lt X s (fun z => h0 (by omega)) (fun z => ⟨vi, ta_65, pk_lt e Y (fun w => h0 (by omega)) (fun w => h1 ⟨z, w⟩) hr (ta_g _ (ta_pl t i) hb (by omega))⟩) (ta_g _ (ta_pl t i) ha (by omega)) hq⟩
theorem ta_ycl {post : Int32 → SY → Prop} {a b c mk : Nat → Int32} {t m s e : Nat} {F G : Nat → Nat} {x : Int32} (ht : t < 3) (hm : m ≤ 32) (bs : s ≤ 64) (be : e ≤ 64) (hq : x / 65 = nI s) (hr : x - x / 65 * 65 = nI e) (H : ∀ (a' b' c' : Nat → Int32) (F' G' : Nat → Nat), ta_F a b c a' b' c' t → ta_T a' b' c' t (ta_cn (ta_kp F G s e) m) F' G' → (∀ j, j < m → ta_kp F G s e j = true → F' (ta_cn (ta_kp F G s e) j) = F j ∧ G' (ta_cn (ta_kp F G s e) j) = G j) → post (nI (m - ta_cn (ta_kp F G s e) m)) (a', b', c', mk)) : ∀ (i m1 : Nat) (F1 G1 : Nat → Nat) (a1 b1 c1 : Nat → Int32), i ≤ m → ta_F a b c a1 b1 c1 t → ta_T a1 b1 c1 t m1 F1 G1 → m1 + ta_cn (ta_kp F G s e) i = i + ta_cn (ta_kp F G s e) m → (∀ j, j < i → F1 j = F j ∧ G1 j = G j) → (∀ j, i ≤ j → j < m → ta_kp F G s e j = true → F1 (i + (ta_cn (ta_kp F G s e) j - ta_cn (ta_kp F G s e) i)) = F j ∧ G1 (i + (ta_cn (ta_kp F G s e) j - ta_cn (ta_kp F G s e) i)) = G j) → wY_clear_27 post (nI t) x (i + 1) (nI (m - m1)) (nI i + (-1)) a1 b1 c1 mk
  | 0, m1, F1, G1, a1, b1, c1, hi, hF, hT, hc, hl, hg => by
    refine br_t (by decide) ?_
    have e1 : m1 = ta_cn (ta_kp F G s e) m := by
      have e0 : ta_cn (ta_kp F G s e) 0 = 0 := rfl
      omega
    subst e1
    refine H a1 b1 c1 F1 G1 hF hT (fun j hj hp => ?_)
    have z := hg j (Nat.zero_le j) hj hp
    rw [show 0 + (ta_cn (ta_kp F G s e) j - ta_cn (ta_kp F G s e) 0) = ta_cn (ta_kp F G s e) j from Nat.zero_add _] at z
    exact z
  | i + 1, m1, F1, G1, a1, b1, c1, hi, hF, hT, hc, hl, hg => by
    have hm1 := hT.2.1
    have mo := ta_cnm (p := ta_kp F G s e) (i := i + 1) (j := m) hi
    have md := ta_cnd (p := ta_kp F G s e) (i := i + 1) (m - (i + 1))
    rw [show i + 1 + (m - (i + 1)) = m by omega] at md
    have q := hT.2.2 i (by omega)
    have li := hl i (by omega)
    rw [pk_m1]
    refine br_f (nI_pos (by omega)) ⟨pk_in t 3 ht, pk_le m1 i (fun z => absurd z (by omega)) (fun _ => ?_) (ta_c hT ht) rfl⟩
    rw [li.1, li.2] at q
    refine ta_yli (F i) (G i) ht (by omega) q.1 q.2.1 (by omega) (by omega) bs be hq hr (fun z => br_f ta_10 ?_) (fun z => br_t rfl ?_)
    · have hn := ta_cnf (p := ta_kp F G s e) (i := i) (ta_kpf z)
      refine ta_ydr hT ht (by omega) (fun a' b' c' x1 x2 => nm_r (e' := nI (m - (m1 - 1))) ?_ ?_)
      · rw [nI_1]
        exact congrArg nI (by omega)
      · intro x4 e4
        subst e4
        refine ta_ycl ht hm bs be hq hr H i (m1 - 1) _ _ a' b' c' (by omega) (ta_Ft hF x1) x2 (by omega) (fun j hj => ?_) (fun j h1 h2 hp => ?_)
        · rw [ta_rm1 hj, ta_rm1 hj]
          exact hl j (by omega)
        · have nj : j ≠ i := by
            intro w
            subst w
            rw [ta_kpf z] at hp
            exact absurd hp (by decide)
          have w := hg j (by omega) h2 hp
          rw [ta_rm2 (by omega), ta_rm2 (by omega)]
          rw [hn] at w
          rw [show i + (ta_cn (ta_kp F G s e) j - ta_cn (ta_kp F G s e) i) + 1 = i + 1 + (ta_cn (ta_kp F G s e) j - ta_cn (ta_kp F G s e) i) by omega]
          exact w
    · have hn := ta_cnt (p := ta_kp F G s e) (i := i) (ta_kpt z)
      intro x4 e4
      subst e4
      refine ta_ycl ht hm bs be hq hr H i m1 F1 G1 a1 b1 c1 (by omega) hF hT (by omega) (fun j hj => hl j (by omega)) (fun j h1 h2 hp => ?_)
      by_cases y : j = i
      · subst y
        rw [show j + (ta_cn (ta_kp F G s e) j - ta_cn (ta_kp F G s e) j) = j by omega]
        exact li
      · have w := hg j (by omega) h2 hp
        have mo2 := ta_cnm (p := ta_kp F G s e) (i := i + 1) (j := j) (by omega)
        rw [show i + (ta_cn (ta_kp F G s e) j - ta_cn (ta_kp F G s e) i) = i + 1 + (ta_cn (ta_kp F G s e) j - ta_cn (ta_kp F G s e) (i + 1)) by omega]
        exact w
theorem ta_yc1 {post : Int32 → SY → Prop} {a b c mk : Nat → Int32} {t m : Nat} {F G : Nat → Nat} {x : Int32} (hT : ta_T a b c t m F G) (ht : t < 3) (H : wY_clear_27 post (nI t) x (m + 1) (nI 0) (nI m + (-1)) a b c mk) : ∀ d, m + d ≤ 32 → wY_clear_27 post (nI t) x (m + d + 1) (nI 0) (nI (m + d) + (-1)) a b c mk
  | 0, _ => H
  | d + 1, hd => by
    show wY_clear_27 post (nI t) x (m + d + 1 + 1) (nI 0) (nI (m + d + 1) + (-1)) a b c mk
    rw [pk_m1]
    exact br_f (nI_pos (by omega)) ⟨pk_in t 3 ht, pk_le m (m + d) (fun _ => nm_e (ta_yc1 hT ht H d (by omega))) (fun z => absurd z (by omega)) (ta_c hT ht) rfl⟩
theorem i_vc_clear {k : Nat} {u : SX} {v : SY} (I : i_Rel k u v) (hk : k + 5 ≤ 2560) (v1 : Int32) (v2 : Int32) : wpX_clear (fun r u' => wpY_clear (fun r' v' => r' = r ∧ i_Rel (k + 5) u' v') v v1 v2) u v1 v2 := by
  obtain ⟨a, b, c⟩ := u
  obtain ⟨f, g, h, mk⟩ := v
  unfold wpX_clear wpY_clear
  dsimp only
  rcases ta_trk v1 with ⟨hx, hy⟩ | ⟨t, ht, rfl, hx, hy⟩
  · exact hx _ (br_t rfl (hy _ _ (br_f ta_10 ⟨rfl, i_up I⟩)))
  · obtain ⟨m, F, G, hX, hY⟩ := ta_I I ht
    have hm := hX.2.1
    have vt : vp_in (nI t) 3 := pk_in t 3 ht
    rcases ta_str v2 with ⟨kx, ky⟩ | ⟨s, e, hse, be, hq, hr, kx, ky⟩
    · exact hx _ (br_f ta_10 (kx _ (br_t rfl (hy _ _ (br_t rfl (ky _ _ (br_f ta_10 ⟨rfl, i_up I⟩)))))))
    · refine hx _ (br_f ta_10 (kx _ (br_f ta_10 ⟨ta_65, nm_r hq ⟨ta_65, nm_r hr (nm_r (ta_p0 t) ⟨vt, nm_r (ta_c hX ht) ⟨m + 1, ?_⟩⟩)⟩⟩)))
      refine ta_xcl hX ht (by omega) be (fun a' b' c' x1 x2 x3 => hy _ _ (br_t rfl (ky _ _ (br_t rfl ⟨m + (32 - m) + 1, ?_⟩)))) m 0 a b (by omega) ⟨fun _ _ => ⟨rfl, rfl⟩, fun j hj => absurd hj (Nat.not_lt_zero _), fun j _ hj => ⟨(hX.2.2 j hj).1, (hX.2.2 j hj).2.1⟩⟩
      have e31 : (31 : Int32) = nI (m + (32 - m)) + (-1) := by
        rw [show m + (32 - m) = 32 by omega]
        decide
      rw [e31]
      refine ta_yc1 hY ht ?_ (32 - m) (by omega)
      have e0 : nI 0 = nI (m - m) := congrArg nI (by omega)
      rw [e0]
      refine ta_ycl (a := f) (b := g) (c := h) (F := F) (G := G) ht hm (by omega) be hq hr (fun f' g' h' F' G' y1 y2 y3 => ⟨rfl, ta_R I x1 y1 ⟨x2, y2.2.1, fun l hl => ?_⟩ y2 _⟩) m m F G f g h (Nat.le_refl m) ta_Fr hY rfl (fun _ _ => ⟨rfl, rfl⟩) (fun j h1 h2 => absurd h1 (by omega))
      obtain ⟨j, hj, hp, rfl⟩ := ta_cns m l hl
      have z := x3 j hj hp
      have w := y3 j hj hp
      rw [w.1, w.2]
      exact ⟨z.1, z.2, (hX.2.2 j hj).2.2⟩
/-! ===== copy ===== -/
def ta_P (a b : Nat → Int32) (t w i : Nat) (a1 b1 : Nat → Int32) : Prop :=
  (∀ p, (p < 32 * t ∨ 32 * t + i ≤ p) → a1 p = a p ∧ b1 p = b p) ∧ (∀ l, l < i → a1 (32 * t + l) = a (32 * w + l) ∧ b1 (32 * t + l) = b (32 * w + l))
theorem ta_P0 {a b : Nat → Int32} {t w : Nat} : ta_P a b t w 0 a b := ⟨fun _ _ => ⟨rfl, rfl⟩, fun l hl => absurd hl (Nat.not_lt_zero _)⟩
theorem ta_Ps {a b a1 b1 : Nat → Int32} {t w i : Nat} (h : ta_P a b t w i a1 b1) (hi : i < 32) : ta_P a b t w (i + 1) (upd a1 (32 * t + i) (a1 (32 * w + i))) (upd b1 (32 * t + i) (b1 (32 * w + i))) := by
  refine ⟨fun p hp => ?_, fun l hl => ?_⟩
  · rw [pk_un (by omega), pk_un (by omega)]
    exact h.1 p (by omega)
  · by_cases e : l = i
    · subst e
      rw [pk_us, pk_us]
      exact h.1 (32 * w + l) (by omega)
    · rw [pk_un (by omega), pk_un (by omega)]
      exact h.2 l (by omega)
theorem ta_Pe {a b c a1 b1 : Nat → Int32} {t w n i : Nat} {F G : Nat → Nat} (hW : ta_T a b c w n F G) (h : ta_P a b t w i a1 b1) (hi : n ≤ i) (h32 : i ≤ 32) : ta_F a b c a1 b1 (upd c t (nI n)) t ∧ ta_T a1 b1 (upd c t (nI n)) t n F G := by
  refine ⟨⟨fun p hp => h.1 p (by omega), fun x hx => pk_un hx⟩, pk_us, hW.2.1, fun l hl => ?_⟩
  have z := h.2 l (by omega)
  have q := hW.2.2 l hl
  exact ⟨z.1.trans q.1, z.2.trans q.2.1, q.2.2⟩
theorem ta_xcp {post : Int32 → SX → Prop} {a b c : Nat → Int32} {t w n : Nat} {F G : Nat → Nat} (ht : t < 3) (hw : w < 3) (hW : ta_T a b c w n F G) (H : ∀ a' b' c' : Nat → Int32, ta_F a b c a' b' c' t → ta_T a' b' c' t n F G → post (nI n) (a', b', c')) : ∀ (d i : Nat) (a1 b1 : Nat → Int32), i + d = n → ta_P a b t w i a1 b1 → wX_copy_18 post (nI t) (nI w) (d + 1) (nI i) a1 b1 c
  | 0, i, a1, b1, hi, h => by
    have hm := hW.2.1
    obtain rfl : i = n := by omega
    have vt : vp_in (nI t) 3 := pk_in t 3 ht
    have vw : vp_in (nI w) 3 := pk_in w 3 hw
    refine ⟨vw, pk_le i i (fun _ => ⟨vw, vt, fun c' ec => ⟨vt, ?_⟩⟩) (fun z => absurd z (by omega)) (ta_c hW hw) rfl⟩
    rw [ta_c hW hw, nI_clamp (by omega)] at ec
    subst ec
    have z := ta_Pe hW h (Nat.le_refl i) hm
    rw [ta_c z.2 ht]
    exact H _ _ _ z.1 z.2
  | d + 1, i, a1, b1, hi, h => by
    have hm := hW.2.1
    have vw : vp_in (nI w) 3 := pk_in w 3 hw
    have vi : vp_in (nI t * 32 + nI i) 96 := pk_in (32 * t + i) 96 (by omega) (ta_pl t i)
    have vj : vp_in (nI w * 32 + nI i) 96 := pk_in (32 * w + i) 96 (by omega) (ta_pl w i)
    refine ⟨vw, pk_le n i (fun z => absurd z (by omega)) (fun _ => ⟨vj, vi, fun a' ea => ⟨vj, vi, fun b' eb => nm_r (nI_1 i) ?_⟩⟩) (ta_c hW hw) rfl⟩
    rw [ta_pl, ta_pl, nI_clamp (by omega), nI_clamp (by omega)] at ea eb
    subst ea eb
    exact ta_xcp ht hw hW H d (i + 1) _ _ (by omega) (ta_Ps h (by omega))
theorem ta_ycp {post : Int32 → SY → Prop} {a b c mk : Nat → Int32} {t w n : Nat} {F G : Nat → Nat} (ht : t < 3) (hw : w < 3) (hW : ta_T a b c w n F G) (H : ∀ a' b' c' : Nat → Int32, ta_F a b c a' b' c' t → ta_T a' b' c' t n F G → post (nI n) (a', b', c', mk)) : ∀ (d i : Nat) (a1 b1 : Nat → Int32), i + d = 32 → ta_P a b t w i a1 b1 → wY_copy_20 post (nI t) (nI w) (d + 1) (nI i) a1 b1 c mk
  | 0, i, a1, b1, hi, h => by
    have hm := hW.2.1
    have vt : vp_in (nI t) 3 := pk_in t 3 ht
    have vw : vp_in (nI w) 3 := pk_in w 3 hw
    refine pk_le 32 i (fun _ => ⟨vw, vt, fun c' ec => ⟨vt, ?_⟩⟩) (fun z => absurd z (by omega))
    rw [ta_c hW hw, nI_clamp (by omega)] at ec
    subst ec
    have z := ta_Pe hW h (by omega) (by omega)
    rw [ta_c z.2 ht]
    exact H _ _ _ z.1 z.2
  | d + 1, i, a1, b1, hi, h => by
    have vi : vp_in (nI t * 32 + nI i) 96 := pk_in (32 * t + i) 96 (by omega) (ta_pl t i)
    have vj : vp_in (nI w * 32 + nI i) 96 := pk_in (32 * w + i) 96 (by omega) (ta_pl w i)
    refine pk_le 32 i (fun z => absurd z (by omega)) (fun _ => ⟨vj, vi, fun a' ea => ⟨vj, vi, fun b' eb => nm_r (nI_1 i) ?_⟩⟩)
    rw [ta_pl, ta_pl, nI_clamp (by omega), nI_clamp (by omega)] at ea eb
    subst ea eb
    exact ta_ycp ht hw hW H d (i + 1) _ _ (by omega) (ta_Ps h (by omega))
theorem i_vc_copy {k : Nat} {u : SX} {v : SY} (I : i_Rel k u v) (hk : k + 5 ≤ 2560) (v1 : Int32) (v2 : Int32) : wpX_copy (fun r u' => wpY_copy (fun r' v' => r' = r ∧ i_Rel (k + 5) u' v') v v1 v2) u v1 v2 := by
  obtain ⟨a, b, c⟩ := u
  obtain ⟨f, g, h, mk⟩ := v
  unfold wpX_copy wpY_copy
  dsimp only
  rcases ta_trk v1 with ⟨hx, hy⟩ | ⟨t, ht, rfl, hx, hy⟩
  · exact hx _ (br_t rfl (hy _ _ (br_f ta_10 ⟨rfl, i_up I⟩)))
  · rcases ta_trk v2 with ⟨kx, ky⟩ | ⟨w, hw, rfl, kx, ky⟩
    · exact hx _ (br_f ta_10 (kx _ (br_t rfl (hy _ _ (br_t rfl (ky _ _ (br_f ta_10 ⟨rfl, i_up I⟩)))))))
    · obtain ⟨n, F, G, hX, hY⟩ := ta_I I hw
      refine hx _ (br_f ta_10 (kx _ (br_f ta_10 ⟨n + 1, ta_xcp ht hw hX (fun a' b' c' x1 x2 => ?_) n 0 a b (by omega) ta_P0⟩)))
      exact hy _ _ (br_t rfl (ky _ _ (br_t rfl ⟨33, ta_ycp ht hw hY (fun f' g' h' y1 y2 => ⟨rfl, ta_R I x1 y1 x2 y2 _⟩) 32 0 f g rfl ta_P0⟩)))
end
section
/-! ===== covers as sets of bits; shared ===== -/
def ta_bt (x : Int64) (p : Nat) : Bool := x.toBitVec.getLsbD p
theorem ta_ush {x : Int64} {p : Nat} (hp : p < 64) : ((x.toUInt64 >>> ((nI p).toInt64.toUInt64 &&& Int64.toUInt64 63)).toInt64).toBitVec = x.toBitVec >>> p := by
  rw [wb_cu p hp]
  apply BitVec.eq_of_toNat_eq
  show (x.toUInt64 >>> UInt64.ofNat p).toNat = _
  have h1 : (UInt64.ofNat p).toNat = p := by
    show (BitVec.ofNat 64 p).toNat = p
    rw [BitVec.toNat_ofNat, Nat.mod_eq_of_lt (by omega)]
  rw [UInt64.toNat_shiftRight, h1, Nat.mod_eq_of_lt hp, BitVec.toNat_ushiftRight]
  rfl
theorem ta_b1 {x : Int64} {p : Nat} (hp : p < 64) : (((x.toUInt64 >>> ((nI p).toInt64.toUInt64 &&& Int64.toUInt64 63)).toInt64) &&& 1) = 1 ↔ ta_bt x p = true := by
  rw [← Int64.toBitVec_inj, Int64.toBitVec_and, ta_ush hp]
  show x.toBitVec >>> p &&& 1#64 = 1#64 ↔ x.toBitVec.getLsbD p = true
  constructor
  · intro h
    have t := congrArg (fun x => x.getLsbD 0) h
    simpa using t
  · intro h
    apply BitVec.eq_of_getLsbD_eq
    intro i hi
    cases i with
    | zero => simp [h]
    | succ i => simp
theorem ta_xin {post : Int32 → Prop} {x : Int64} {p : Nat} (hp : p < 64) (h1 : ta_bt x p = true → post 1) (h0 : ta_bt x p = false → post 0) : wpX_isIn post x (nI p) := by
  unfold wpX_isIn
  rw [ta_b1 hp]
  refine ⟨h1, fun z => h0 ?_⟩
  cases e : ta_bt x p
  · rfl
  · exact absurd e z
theorem ta_or (x y : Int64) (p : Nat) : ta_bt (x ||| y) p = (ta_bt x p || ta_bt y p) := by
  unfold ta_bt
  rw [Int64.toBitVec_or, BitVec.getLsbD_or]
theorem ta_and (x y : Int64) (p : Nat) : ta_bt (x &&& y) p = (ta_bt x p && ta_bt y p) := by
  unfold ta_bt
  rw [Int64.toBitVec_and, BitVec.getLsbD_and]
theorem ta_xor (x y : Int64) (p : Nat) : ta_bt (x ^^^ y) p = (ta_bt x p ^^ ta_bt y p) := by
  unfold ta_bt
  rw [Int64.toBitVec_xor, BitVec.getLsbD_xor]
theorem ta_ones : (-1 : Int64).toBitVec = BitVec.allOnes 64 := by decide
theorem ta_bm1 {p : Nat} (hp : p < 64) : ta_bt (-1) p = true := by
  unfold ta_bt
  rw [ta_ones, BitVec.getLsbD_allOnes]
  exact decide_eq_true hp
theorem ta_not {x : Int64} {p : Nat} (hp : p < 64) : ta_bt (x ^^^ (-1)) p = !ta_bt x p := by
  rw [ta_xor, ta_bm1 hp]
  cases ta_bt x p <;> rfl
theorem ta_big {x : Int64} {p : Nat} (hp : 64 ≤ p) : ta_bt x p = false := BitVec.getLsbD_of_ge _ _ hp
theorem ta_b0 (p : Nat) : ta_bt 0 p = false := BitVec.getLsbD_zero
theorem ta_msk {s e p : Nat} (hse : s < e) (be : e ≤ 64) (hp : p < 64) : ta_bt ((((-1 : Int64).toUInt64 >>> ((64 - (nI e - nI s)).toInt64.toUInt64 &&& Int64.toUInt64 63)).toInt64) <<< ((nI s).toInt64 &&& 63)) p = decide (s < p + 1 ∧ p < e) := by
  have e1 : (64 : Int32) - (nI e - nI s) = nI (64 - (e - s)) := by
    rw [pk_sub (by omega)]
    exact pk_sub (a := 64) (by omega)
  unfold ta_bt
  rw [e1, wb_c s (by omega), Int64.toBitVec_shiftLeft, wb_tb, wb_sm s (by omega), ta_ush (by omega), ta_ones, BitVec.shiftLeft_eq', BitVec.toNat_ofNat, Nat.mod_eq_of_lt (by omega), BitVec.getLsbD_shiftLeft, BitVec.getLsbD_ushiftRight, BitVec.getLsbD_allOnes]
  by_cases h : s < p + 1 ∧ p < e
  · rw [decide_eq_true h, decide_eq_true hp, decide_eq_false (show ¬ p < s by omega), decide_eq_true (show 64 - (e - s) + (p - s) < 64 by omega)]
    rfl
  · rw [decide_eq_false h]
    by_cases k : p < s
    · rw [decide_eq_true k]
      simp
    · rw [decide_eq_false (show ¬ 64 - (e - s) + (p - s) < 64 by omega)]
      simp
theorem ta_xco_l {post : Int64 → Prop} {a b c : Nat → Int32} {t m : Nat} {F G : Nat → Nat} (hT : ta_T a b c t m F G) (ht : t < 3) (H : ∀ r : Int64, (∀ p, p < 64 → ta_bt r p = decide (0 < ta_cn (ta_mt F G p (p + 1)) m)) → post r) : ∀ (d i : Nat) (x : Int64), i + d = m → (∀ p, p < 64 → ta_bt x p = decide (0 < ta_cn (ta_mt F G p (p + 1)) i)) → wX_coverOf_5 post (nI t) a b c (d + 1) x (nI i)
  | 0, i, x, hi, h => by
    have hm := hT.2.1
    obtain rfl : i = m := by omega
    exact ⟨pk_in t 3 ht, pk_le i i (fun _ => H x h) (fun z => absurd z (by omega)) (ta_c hT ht) rfl⟩
  | d + 1, i, x, hi, h => by
    have hm := hT.2.1
    have q := hT.2.2 i (by omega)
    have vi : vp_in (nI t * 32 + nI i) 96 := pk_in (32 * t + i) 96 (by omega) (ta_pl t i)
    refine ⟨pk_in t 3 ht, pk_le m i (fun z => absurd z (by omega)) (fun _ => ⟨vi, nm_r (ta_g _ (ta_pl t i) q.1 (by omega)) ⟨vi, nm_r (ta_g _ (ta_pl t i) q.2.1 (by omega)) (nm_e (nm_r (nI_1 i) ?_))⟩⟩) (ta_c hT ht) rfl⟩
    refine ta_xco_l hT ht H d (i + 1) _ (by omega) (fun p hp => ?_)
    rw [ta_or, h p hp, ta_msk q.2.2.1 q.2.2.2 hp]
    by_cases z : F i < p + 1 ∧ p < G i
    · rw [ta_cnt (ta_mtt z), decide_eq_true z, Bool.or_true]
      exact (decide_eq_true (by omega)).symm
    · rw [ta_cnf (ta_mtf z), decide_eq_false z, Bool.or_false]
theorem ta_xco {post : Int64 → Prop} {a b c : Nat → Int32} {t m : Nat} {F G : Nat → Nat} (hT : ta_T a b c t m F G) (ht : t < 3) (H : ∀ r : Int64, (∀ p, p < 64 → ta_bt r p = decide (0 < ta_cn (ta_mt F G p (p + 1)) m)) → post r) : wpX_coverOf post (a, b, c) (nI t) :=
  ⟨m + 1, ta_xco_l hT ht H m 0 0 (by omega) (fun p _ => by rw [ta_b0]; rfl)⟩
theorem ta_xcp_l {post : Int32 → Prop} {x : Int64} (H : post (nI (ta_cn (ta_bt x) 64))) : ∀ d i, i + d = 64 → wX_countPositions_4 post x (d + 1) (nI (ta_cn (ta_bt x) i)) (nI i)
  | 0, i, hi => by
    obtain rfl : i = 64 := by omega
    exact pk_le 64 64 (fun _ => H) (fun z => absurd z (by omega))
  | d + 1, i, hi => by
    have ih := ta_xcp_l H d (i + 1) (by omega)
    refine pk_le 64 i (fun z => absurd z (by omega)) (fun _ => ta_xin (by omega) (fun z => br_f ta_10 (nm_r (ta_n1 z) (nm_r (nI_1 i) ih))) (fun z => br_t rfl (nm_r (nI_1 i) ?_)))
    rw [ta_cnf z] at ih
    exact ih
def ta_sh (F G P Q : Nat → Nat) (m n p : Nat) : Bool := decide (0 < ta_cn (ta_mt F G p (p + 1)) m) && decide (0 < ta_cn (ta_mt P Q p (p + 1)) n)
theorem ta_ysh {post : Int32 → Prop} {a b c mk : Nat → Int32} {t m w n : Nat} {F G P Q : Nat → Nat} (hT : ta_T a b c t m F G) (ht : t < 3) (hW : ta_T a b c w n P Q) (hw : w < 3) (H : post (nI (ta_cn (ta_sh F G P Q m n) 64))) : ∀ d i, i + d = 64 → wY_shared_23 post (nI t) (nI w) a b c mk (d + 1) (nI (ta_cn (ta_sh F G P Q m n) i)) (nI i)
  | 0, i, hi => by
    obtain rfl : i = 64 := by omega
    exact pk_le 64 64 (fun _ => H) (fun z => absurd z (by omega))
  | d + 1, i, hi => by
    have hm := hT.2.1
    have hn := hW.2.1
    have ih := ta_ysh (mk := mk) hT ht hW hw H d (i + 1) (by omega)
    have b1 := ta_cnle (ta_mt F G i (i + 1)) m
    have b2 := ta_cnle (ta_mt P Q i (i + 1)) n
    refine pk_le 64 i (fun z => absurd z (by omega)) (fun _ => ta_yd hT ht (by omega) (pk_le (ta_cn (ta_mt F G i (i + 1)) m) 0 (fun z => ?_) (fun z => ta_yd hW hw (by omega) (pk_le (ta_cn (ta_mt P Q i (i + 1)) n) 0 (fun w => ?_) (fun w => ?_)))))
    · have e : ta_sh F G P Q m n i = false := by
        rw [ta_sh, decide_eq_false (by omega)]; rfl
      rw [ta_cnf e] at ih
      exact nm_r (nI_1 i) ih
    · have e : ta_sh F G P Q m n i = false := by
        rw [ta_sh, decide_eq_false (p := 0 < ta_cn (ta_mt P Q i (i + 1)) n) (by omega), Bool.and_false]
      rw [ta_cnf e] at ih
      exact nm_r (nI_1 i) ih
    · have e : ta_sh F G P Q m n i = true := by
        rw [ta_sh, decide_eq_true z, decide_eq_true w]; rfl
      exact nm_r (ta_n1 e) (nm_r (nI_1 i) ih)
theorem i_vc_shared {k : Nat} {u : SX} {v : SY} (I : i_Rel k u v) (hk : k + 5 ≤ 2560) (v1 : Int32) (v2 : Int32) : wpX_shared (fun r => wpY_shared (fun r' => r' = r ∧ i_Rel (k + 5) u v) v v1 v2) u v1 v2 := by
  obtain ⟨a, b, c⟩ := u
  obtain ⟨f, g, h, mk⟩ := v
  unfold wpX_shared wpY_shared
  dsimp only
  rcases ta_trk v1 with ⟨hx, hy⟩ | ⟨t, ht, rfl, hx, hy⟩
  · exact hx _ (br_t rfl (hy _ _ (br_f ta_10 ⟨rfl, i_up I⟩)))
  · rcases ta_trk v2 with ⟨kx, ky⟩ | ⟨w, hw, rfl, kx, ky⟩
    · exact hx _ (br_f ta_10 (kx _ (br_t rfl (hy _ _ (br_t rfl (ky _ _ (br_f ta_10 ⟨rfl, i_up I⟩)))))))
    · obtain ⟨m, F, G, hX, hY⟩ := ta_I I ht
      obtain ⟨n, P, Q, hX2, hY2⟩ := ta_I I hw
      refine hx _ (br_f ta_10 (kx _ (br_f ta_10 (ta_xco hX ht (fun r hr => ta_xco hX2 hw (fun q hq => ⟨65, ta_xcp_l ?_ 64 0 rfl⟩))))))
      have e : ta_cn (ta_bt (r &&& q)) 64 = ta_cn (ta_sh F G P Q m n) 64 := ta_cnc 64 (fun p hp => by rw [ta_and, hr p hp, hq p hp]; rfl)
      rw [e]
      exact hy _ _ (br_t rfl (ky _ _ (br_t rfl ⟨65, ta_ysh hY ht hY2 hw ⟨rfl, i_up I⟩ 64 0 rfl⟩)))
end
section
/-! ===== the runs of a set of positions ===== -/
def ta_ib (B : Nat → Bool) : Nat → Bool
  | 0 => false
  | p + 1 => B p
def ta_K (B : Nat → Bool) : Nat → Nat
  | 0 => 0
  | p + 1 => bif B p && !ta_ib B p then ta_K B p + 1 else ta_K B p
def ta_S (B : Nat → Bool) : Nat → Nat → Nat
  | 0, _ => 0
  | p + 1, j => bif B p && !ta_ib B p && decide (j = ta_K B p) then p else ta_S B p j
def ta_E (B : Nat → Bool) : Nat → Nat → Nat
  | 0, _ => 0
  | p + 1, j => bif B p && decide (j + 1 = ta_K B (p + 1)) then p + 1 else ta_E B p j
theorem ta_Kn {B : Nat → Bool} {p : Nat} (h : B p = true) (hi : ta_ib B p = false) : ta_K B (p + 1) = ta_K B p + 1 := by
  rw [ta_K, h, hi]; rfl
theorem ta_Kc {B : Nat → Bool} {p : Nat} (h : B p = true) (hi : ta_ib B p = true) : ta_K B (p + 1) = ta_K B p := by
  rw [ta_K, h, hi]; rfl
theorem ta_Ko {B : Nat → Bool} {p : Nat} (h : B p = false) : ta_K B (p + 1) = ta_K B p := by
  rw [ta_K, h]; rfl
theorem ta_Sn {B : Nat → Bool} {p : Nat} (h : B p = true) (hi : ta_ib B p = false) : ta_S B (p + 1) (ta_K B p) = p := by
  rw [ta_S, h, hi, decide_eq_true rfl]; rfl
theorem ta_Sm {B : Nat → Bool} {p j : Nat} (h : j < ta_K B p) : ta_S B (p + 1) j = ta_S B p j := by
  rw [ta_S, decide_eq_false (by omega), Bool.and_false]; rfl
theorem ta_Sc {B : Nat → Bool} {p j : Nat} (hi : ta_ib B p = true) : ta_S B (p + 1) j = ta_S B p j := by
  rw [ta_S, hi]; simp
theorem ta_So {B : Nat → Bool} {p j : Nat} (h : B p = false) : ta_S B (p + 1) j = ta_S B p j := by
  rw [ta_S, h]; rfl
theorem ta_El {B : Nat → Bool} {p j : Nat} (h : B p = true) (hj : j + 1 = ta_K B (p + 1)) : ta_E B (p + 1) j = p + 1 := by
  rw [ta_E, h, decide_eq_true hj]; rfl
theorem ta_Em {B : Nat → Bool} {p j : Nat} (hj : j + 1 ≠ ta_K B (p + 1)) : ta_E B (p + 1) j = ta_E B p j := by
  rw [ta_E, decide_eq_false hj, Bool.and_false]; rfl
theorem ta_Eo {B : Nat → Bool} {p j : Nat} (h : B p = false) : ta_E B (p + 1) j = ta_E B p j := by
  rw [ta_E, h]; rfl
def ta_Q (B : Nat → Bool) (p : Nat) : Prop :=
  (ta_ib B p = true → 1 ≤ ta_K B p ∧ 2 * ta_K B p ≤ p + 1 ∧ ta_E B p (ta_K B p - 1) = p) ∧ (ta_ib B p = false → 2 * ta_K B p ≤ p) ∧ (∀ j, j < ta_K B p → ta_S B p j < ta_E B p j ∧ ta_E B p j ≤ p) ∧ (∀ j, j + 1 < ta_K B p → ta_S B p j < ta_S B p (j + 1))
theorem ta_Qp (B : Nat → Bool) : ∀ p, ta_Q B p
  | 0 => ⟨fun h => absurd (show false = true from h) (by decide), fun _ => Nat.le_refl _, fun j h => absurd h (Nat.not_lt_zero _), fun j h => absurd h (Nat.not_lt_zero _)⟩
  | p + 1 => by
    obtain ⟨h1, h2, h3, h4⟩ := ta_Qp B p
    cases hB : B p
    · have hi : ta_ib B (p + 1) = false := hB
      have hK := ta_Ko hB
      refine ⟨fun z => absurd (hi.symm.trans z) (by decide), fun _ => ?_, fun j hj => ?_, fun j hj => ?_⟩
      · rw [hK]
        cases z : ta_ib B p
        · have := h2 z; omega
        · have := (h1 z).2.1; omega
      · rw [hK] at hj
        rw [ta_So hB, ta_Eo hB]
        have := h3 j hj
        omega
      · rw [hK] at hj
        rw [ta_So hB, ta_So hB]
        exact h4 j hj
    · have hi : ta_ib B (p + 1) = true := hB
      cases z : ta_ib B p
      · have hK := ta_Kn hB z
        have b := h2 z
        refine ⟨fun _ => ⟨by omega, by omega, ?_⟩, fun w => absurd (hi.symm.trans w) (by decide), fun j hj => ?_, fun j hj => ?_⟩
        · exact ta_El hB (by omega)
        · by_cases e : j = ta_K B p
          · subst e
            rw [ta_Sn hB z, ta_El hB hK.symm]
            omega
          · rw [ta_Sm (by omega), ta_Em (by omega)]
            have := h3 j (by omega)
            omega
        · by_cases e : j + 1 = ta_K B p
          · have := h3 j (by omega)
            rw [ta_Sm (by omega), e, ta_Sn hB z]
            omega
          · rw [ta_Sm (by omega), ta_Sm (by omega)]
            exact h4 j (by omega)
      · have hK := ta_Kc hB z
        have b := h1 z
        refine ⟨fun _ => ⟨by omega, by omega, ?_⟩, fun w => absurd (hi.symm.trans w) (by decide), fun j hj => ?_, fun j hj => ?_⟩
        · exact ta_El hB (by omega)
        · have := h3 j (by omega)
          by_cases e : j + 1 = ta_K B (p + 1)
          · rw [ta_Sc z, ta_El hB e]
            omega
          · rw [ta_Sc z, ta_Em e]
            omega
        · rw [ta_Sc z, ta_Sc z]
          exact h4 j (by omega)
/-! the component's walk -/
def ta_W (a b : Nat → Int32) (t : Nat) (B : Nat → Bool) (p : Nat) (a1 b1 : Nat → Int32) : Prop :=
  (∀ q, (q < 32 * t ∨ 32 * t + 32 ≤ q) → a1 q = a q ∧ b1 q = b q) ∧ (∀ j, j < ta_K B p → a1 (32 * t + j) = nI (ta_S B p j) ∧ b1 (32 * t + j) = nI (ta_E B p j))
theorem ta_Wo {a b a1 b1 : Nat → Int32} {t p : Nat} {B : Nat → Bool} (h : ta_W a b t B p a1 b1) (hB : B p = false) : ta_W a b t B (p + 1) a1 b1 := by
  refine ⟨h.1, fun j hj => ?_⟩
  rw [ta_Ko hB] at hj
  rw [ta_So hB, ta_Eo hB]
  exact h.2 j hj
theorem ta_Wc {a b a1 b1 : Nat → Int32} {t p : Nat} {B : Nat → Bool} (h : ta_W a b t B p a1 b1) (hB : B p = true) (hi : ta_ib B p = true) (hp : p < 64) : ta_W a b t B (p + 1) a1 (upd b1 (32 * t + ta_K B p - 1) (nI (p + 1))) := by
  have q := (ta_Qp B p).1 hi
  have hK := ta_Kc hB hi
  refine ⟨fun x hx => ?_, fun j hj => ?_⟩
  · rw [pk_un (by omega)]
    exact h.1 x hx
  · rw [ta_Sc hi]
    by_cases e : j + 1 = ta_K B (p + 1)
    · rw [ta_El hB e, show 32 * t + ta_K B p - 1 = 32 * t + j by omega, pk_us]
      exact ⟨(h.2 j (by omega)).1, rfl⟩
    · rw [ta_Em e, pk_un (by omega)]
      exact h.2 j (by omega)
theorem ta_Wn {a b a1 b1 : Nat → Int32} {t p : Nat} {B : Nat → Bool} (h : ta_W a b t B p a1 b1) (hB : B p = true) (hi : ta_ib B p = false) (hp : p < 64) : ta_W a b t B (p + 1) (upd a1 (32 * t + ta_K B p) (nI p)) (upd b1 (32 * t + ta_K B p) (nI (p + 1))) := by
  have q := (ta_Qp B p).2.1 hi
  have hK := ta_Kn hB hi
  refine ⟨fun x hx => ?_, fun j hj => ?_⟩
  · rw [pk_un (by omega), pk_un (by omega)]
    exact h.1 x hx
  · by_cases e : j = ta_K B p
    · subst e
      rw [ta_Sn hB hi, ta_El hB hK.symm, pk_us, pk_us]
      exact ⟨rfl, rfl⟩
    · rw [ta_Sm (by omega), ta_Em (by omega), pk_un (by omega), pk_un (by omega)]
      exact h.2 j (by omega)
def ta_01 (x : Bool) : Int32 := bif x then 1 else 0
theorem ta_xbl {post : Int32 → SX → Prop} {a b c : Nat → Int32} {t : Nat} {x : Int64} (ht : t < 3) (H : ∀ a' b' c' : Nat → Int32, ta_F a b c a' b' c' t → ta_T a' b' c' t (ta_K (ta_bt x) 64) (ta_S (ta_bt x) 64) (ta_E (ta_bt x) 64) → post (nI (ta_K (ta_bt x) 64)) (a', b', c')) : ∀ (d p : Nat) (a1 b1 : Nat → Int32), p + d = 64 → ta_W a b t (ta_bt x) p a1 b1 → wX_becomeRuns_14 post (nI t) x (d + 1) (nI (32 * t + ta_K (ta_bt x) p) - 1) (ta_01 (ta_ib (ta_bt x) p)) (nI p) a1 b1 c
  | 0, p, a1, b1, hd, h => by
    obtain rfl : p = 64 := by omega
    have vt : vp_in (nI t) 3 := pk_in t 3 ht
    have q := ta_Qp (ta_bt x) 64
    have bK : ta_K (ta_bt x) 64 ≤ 32 := by
      cases z : ta_ib (ta_bt x) 64
      · have := q.2.1 z; omega
      · have := (q.1 z).2.1; omega
    refine pk_le 64 64 (fun _ => ⟨vt, fun c' ec => ⟨vt, ?_⟩⟩) (fun z => absurd z (by omega))
    rw [Int32.sub_add_cancel, ta_p0, pk_sub (by omega), nI_clamp (by omega), Nat.add_sub_cancel_left] at ec
    subst ec
    have hT : ta_T a1 b1 (upd c t (nI (ta_K (ta_bt x) 64))) t (ta_K (ta_bt x) 64) (ta_S (ta_bt x) 64) (ta_E (ta_bt x) 64) :=
      ⟨pk_us, bK, fun i hi => ⟨(h.2 i hi).1, (h.2 i hi).2, q.2.2.1 i hi⟩⟩
    rw [ta_c hT ht]
    exact H _ _ _ ⟨h.1, fun s hs => pk_un hs⟩ hT
  | d + 1, p, a1, b1, hd, h => by
    have q := ta_Qp (ta_bt x) p
    refine pk_le 64 p (fun z => absurd z (by omega)) (fun _ => ta_xin (by omega) (fun hB => br_f ta_10 ?_) (fun hB => br_t rfl ?_))
    · cases hi : ta_ib (ta_bt x) p
      · have b := q.2.1 hi
        have hK := ta_Kn hB hi
        have ih := ta_xbl ht H d (p + 1) _ _ (by omega) (ta_Wn h hB hi (by omega))
        have e5 : ta_01 (ta_ib (ta_bt x) (p + 1)) = 1 := congrArg ta_01 hB
        have e4 : nI (32 * t + ta_K (ta_bt x) (p + 1)) - 1 = nI (32 * t + ta_K (ta_bt x) p) := by
          rw [hK]; exact nI_pred _
        rw [e4, e5] at ih
        have vp : vp_in (nI (32 * t + ta_K (ta_bt x) p)) 96 := pk_in (32 * t + ta_K (ta_bt x) p) 96 (by omega)
        refine br_t rfl (nm_r (Int32.sub_add_cancel _ _) ⟨vp, fun a' ea => br_f ta_10 ⟨vp, fun b' eb => nm_r (nI_1 p) ?_⟩⟩)
        rw [nI_clamp (by omega)] at ea eb
        rw [nI_1] at eb
        subst ea eb
        exact ih
      · have b := q.1 hi
        have hK := ta_Kc hB hi
        have ih := ta_xbl ht H d (p + 1) _ _ (by omega) (ta_Wc h hB hi (by omega))
        have e5 : ta_01 (ta_ib (ta_bt x) (p + 1)) = 1 := congrArg ta_01 hB
        rw [hK, e5] at ih
        have e4 : nI (32 * t + ta_K (ta_bt x) p) - 1 = nI (32 * t + ta_K (ta_bt x) p - 1) := ta_m1 (by omega)
        rw [e4] at ih ⊢
        have vp : vp_in (nI (32 * t + ta_K (ta_bt x) p - 1)) 96 := pk_in (32 * t + ta_K (ta_bt x) p - 1) 96 (by omega)
        refine br_f ta_10 (br_f ta_10 ⟨vp, fun b' eb => nm_r (nI_1 p) ?_⟩)
        rw [nI_clamp (by omega), nI_1] at eb
        subst eb
        exact ih
    · have ih := ta_xbl ht H d (p + 1) _ _ (by omega) (ta_Wo h hB)
      have e5 : ta_01 (ta_ib (ta_bt x) (p + 1)) = 0 := congrArg ta_01 hB
      rw [ta_Ko hB, e5] at ih
      exact br_t rfl (nm_r (nI_1 p) ih)
theorem ta_xb {post : Int32 → SX → Prop} {a b c : Nat → Int32} {t : Nat} {x : Int64} (ht : t < 3) (H : ∀ a' b' c' : Nat → Int32, ta_F a b c a' b' c' t → ta_T a' b' c' t (ta_K (ta_bt x) 64) (ta_S (ta_bt x) 64) (ta_E (ta_bt x) 64) → post (nI (ta_K (ta_bt x) 64)) (a', b', c')) : wpX_becomeRuns post (a, b, c) (nI t) x := by
  refine nm_r (e' := nI (32 * t + ta_K (ta_bt x) 0) - 1) ?_ ⟨65, ?_⟩
  · rw [ta_p0]; rfl
  · exact ta_xbl ht H 64 0 a b rfl ⟨fun _ _ => ⟨rfl, rfl⟩, fun j hj => absurd hj (Nat.not_lt_zero _)⟩
/-! the reference's walk -/
def ta_my (B : Nat → Bool) (p : Nat) : Nat := bif ta_ib B p then ta_K B p - 1 else ta_K B p
def ta_sy (B : Nat → Bool) (p : Nat) : Nat := bif ta_ib B p then ta_S B p (ta_K B p - 1) else p
theorem ta_my1 {B : Nat → Bool} {p : Nat} (h : ta_ib B p = true) : ta_my B p = ta_K B p - 1 := by rw [ta_my, h]; rfl
theorem ta_my0 {B : Nat → Bool} {p : Nat} (h : ta_ib B p = false) : ta_my B p = ta_K B p := by rw [ta_my, h]; rfl
theorem ta_sy1 {B : Nat → Bool} {p : Nat} (h : ta_ib B p = true) : ta_sy B p = ta_S B p (ta_K B p - 1) := by rw [ta_sy, h]; rfl
theorem ta_sy0 {B : Nat → Bool} {p : Nat} (h : ta_ib B p = false) : ta_sy B p = p := by rw [ta_sy, h]; rfl
theorem ta_psend {F G : Nat → Nat} {s e : Nat} : ∀ m, (∀ j, j + 1 = m → F j < s) → ta_ps F G s e m = m
  | 0, _ => rfl
  | m + 1, h => by
    have := h m rfl
    rw [ta_ps, if_neg (by omega)]
theorem ta_yoff {post : Int32 → SY → Prop} {J : Int32 → Int32 → (Nat → Int32) → (Nat → Int32) → (Nat → Int32) → (Nat → Int32) → Prop} {a b c mk a1 b1 c1 : Nat → Int32} {t p : Nat} {B : Nat → Bool} (ht : t < 3) (hp : p ≤ 64) (hB : B p = false) (hF : ta_F a b c a1 b1 c1 t) (hT : ta_T a1 b1 c1 t (ta_my B p) (ta_S B p) (ta_E B p)) (ih : ∀ a2 b2 c2 : Nat → Int32, ta_F a b c a2 b2 c2 t → ta_T a2 b2 c2 t (ta_my B (p + 1)) (ta_S B (p + 1)) (ta_E B (p + 1)) → J (nI (ta_sy B (p + 1))) (nI (p + 1)) a2 b2 c2 mk) : wY_runs_35 post J (nI t) (nI (ta_sy B p)) (nI p) a1 b1 c1 mk := by
  have q := ta_Qp B p
  have hi : ta_ib B (p + 1) = false := hB
  rw [ta_my0 hi, ta_sy0 hi, ta_Ko hB] at ih
  cases z : ta_ib B p
  · rw [ta_my0 z] at hT
    rw [ta_sy0 z]
    refine pk_le p p (fun _ => nm_r (nI_1 p) (nm_r (nI_1 p) (ih a1 b1 c1 hF (ta_TC hT (fun i _ => ⟨ta_So hB, ta_Eo hB⟩))))) (fun w => absurd w (by omega))
  · obtain ⟨b1', b2, b3⟩ := q.1 z
    have l := q.2.2.1 (ta_K B p - 1) (by omega)
    rw [b3] at l
    rw [ta_my1 z] at hT
    rw [ta_sy1 z]
    refine pk_le p (ta_S B p (ta_K B p - 1)) (fun w => absurd w (by omega)) (fun _ => ta_yi hT ht (by omega) l.1 hp (fun a2 b2' c2 x1 x2 => nm_r (nI_1 p) (nm_r (nI_1 p) (ih a2 b2' c2 (ta_Ft hF x1) ?_))))
    have e : ta_ps (ta_S B p) (ta_E B p) (ta_S B p (ta_K B p - 1)) p (ta_K B p - 1) = ta_K B p - 1 := ta_psend _ (fun j hj => by
      have w := q.2.2.2 j (by omega)
      rw [hj] at w
      exact w)
    rw [e, show ta_K B p - 1 + 1 = ta_K B p by omega] at x2
    refine ta_TC x2 (fun i hi => ?_)
    rw [ta_So hB, ta_Eo hB]
    by_cases y : i = ta_K B p - 1
    · subst y
      rw [ta_in2, ta_in2]
      exact ⟨rfl, b3⟩
    · rw [ta_in1 (by omega), ta_in1 (by omega)]
      exact ⟨rfl, rfl⟩
theorem ta_yrl {post : Int32 → SY → Prop} {a b c mk : Nat → Int32} {t : Nat} {B : Nat → Bool} (ht : t < 3) (hM : ∀ p, p < 64 → mk p = ta_01 (B p)) (h64 : B 64 = false) (H : ∀ a' b' c' : Nat → Int32, ta_F a b c a' b' c' t → ta_T a' b' c' t (ta_K B 65) (ta_S B 65) (ta_E B 65) → post (nI (ta_K B 65)) (a', b', c', mk)) : ∀ (d p : Nat) (a1 b1 c1 : Nat → Int32), p + d = 65 → ta_F a b c a1 b1 c1 t → ta_T a1 b1 c1 t (ta_my B p) (ta_S B p) (ta_E B p) → wY_runs_11 post (nI t) (d + 1) (nI (ta_sy B p)) (nI p) a1 b1 c1 mk
  | 0, p, a1, b1, c1, hd, hF, hT => by
    obtain rfl : p = 65 := by omega
    rw [ta_my0 (show ta_ib B 65 = false from h64)] at hT
    refine pk_lt 64 65 (fun _ => ⟨pk_in t 3 ht, ?_⟩) (fun z => absurd z (by omega))
    rw [ta_c hT ht]
    exact H _ _ _ hF hT
  | d + 1, p, a1, b1, c1, hd, hF, hT => by
    have q := ta_Qp B p
    have ih := fun a2 b2 c2 x y => ta_yrl (mk := mk) ht hM h64 H d (p + 1) a2 b2 c2 (by omega) x y
    refine pk_lt 64 p (fun z => absurd z (by omega)) (fun _ => pk_le 64 p (fun z => ?_) (fun z => ⟨pk_in p 64 z, ?_⟩))
    · obtain rfl : p = 64 := by omega
      exact ta_yoff ht (by omega) h64 hF hT ih
    · rw [nI_clamp (by omega), hM p z]
      cases hB : B p
      · exact br_t rfl (ta_yoff ht (by omega) hB hF hT ih)
      · refine br_f ta_10 (nm_r (nI_1 p) ?_)
        have hi : ta_ib B (p + 1) = true := hB
        have ih2 := ih a1 b1 c1 hF
        rw [ta_my1 hi, ta_sy1 hi] at ih2
        cases w : ta_ib B p
        · rw [ta_my0 w] at hT
          rw [ta_sy0 w]
          rw [ta_Kn hB w, Nat.add_sub_cancel, ta_Sn hB w] at ih2
          refine ih2 (ta_TC hT (fun i hi2 => ⟨ta_Sm hi2, ta_Em ?_⟩))
          rw [ta_Kn hB w]
          omega
        · rw [ta_my1 w] at hT
          rw [ta_sy1 w]
          rw [ta_Kc hB w, ta_Sc w] at ih2
          refine ih2 (ta_TC hT (fun i hi2 => ⟨ta_Sc w, ta_Em ?_⟩))
          rw [ta_Kc hB w]
          omega
theorem ta_yr {post : Int32 → SY → Prop} {a b c mk : Nat → Int32} {t : Nat} {B : Nat → Bool} (ht : t < 3) (hM : ∀ p, p < 64 → mk p = ta_01 (B p)) (h64 : B 64 = false) (H : ∀ a' b' c' : Nat → Int32, ta_F a b c a' b' c' t → ta_T a' b' c' t (ta_K B 64) (ta_S B 64) (ta_E B 64) → post (nI (ta_K B 64)) (a', b', c', mk)) : wpY_runs post (a, b, c, mk) (nI t) := by
  refine ⟨pk_in t 3 ht, fun c' ec => ⟨66, ?_⟩⟩
  rw [nI_clamp (by omega)] at ec
  subst ec
  refine ta_yrl (a := a) (b := b) (c := c) (B := B) ht hM h64 (fun a' b' c' x1 x2 => ?_) 65 0 a b _ rfl ⟨fun _ _ => ⟨rfl, rfl⟩, fun s hs => pk_un hs⟩ ⟨pk_us, Nat.zero_le 32, fun i hi => absurd hi (Nat.not_lt_zero _)⟩
  rw [ta_Ko h64] at x2 ⊢
  exact H a' b' c' x1 (ta_TC x2 (fun i _ => ⟨(ta_So h64).symm, (ta_Eo h64).symm⟩))
end
section
/-! ===== merge, complement, join ===== -/
theorem ta_nar (x : Bool) : vp_nar .boolean (ta_01 x) = ta_01 x := by cases x <;> rfl
theorem ta_mkS {mk : Nat → Int32} {B : Nat → Bool} {p : Nat} (h : ∀ q, q < p → mk q = ta_01 (B q)) : ∀ q, q < p + 1 → upd mk p (ta_01 (B p)) q = ta_01 (B q) := by
  intro q hq
  by_cases e : q = p
  · subst e; exact pk_us
  · rw [pk_un e]; exact h q (by omega)
theorem ta_yml {post : Int32 → SY → Prop} {a b c : Nat → Int32} {t m : Nat} {F G : Nat → Nat} {B : Nat → Bool} (hT : ta_T a b c t m F G) (ht : t < 3) (hB : ∀ p, p < 64 → B p = decide (0 < ta_cn (ta_mt F G p (p + 1)) m)) (h64 : B 64 = false) (H : ∀ a' b' c' mk' : Nat → Int32, ta_F a b c a' b' c' t → ta_T a' b' c' t (ta_K B 64) (ta_S B 64) (ta_E B 64) → post (nI (ta_K B 64)) (a', b', c', mk')) : ∀ (d p : Nat) (mk : Nat → Int32), p + d = 64 → (∀ q, q < p → mk q = ta_01 (B q)) → wY_merge_12 post (nI t) (d + 1) (nI p) a b c mk
  | 0, p, w0, hd, h => by
    obtain rfl : p = 64 := by omega
    exact pk_le 64 64 (fun _ => ta_yr ht h h64 (fun a' b' c' x1 x2 => H a' b' c' w0 x1 x2)) (fun z => absurd z (by omega))
  | d + 1, p, w0, hd, h => by
    have hm := hT.2.1
    have bn := ta_cnle (ta_mt F G p (p + 1)) m
    have ih := ta_yml hT ht hB h64 H d (p + 1) _ (by omega) (ta_mkS h)
    have vp : vp_in (nI p) 64 := pk_in p 64 (by omega)
    rw [hB p (by omega)] at ih
    refine pk_le 64 p (fun z => absurd z (by omega)) (fun _ => ta_yd hT ht (by omega) (pk_le (ta_cn (ta_mt F G p (p + 1)) m) 0 (fun z => ⟨vp, fun k ek => nm_r (nI_1 p) ?_⟩) (fun z => ⟨vp, fun k ek => nm_r (nI_1 p) ?_⟩)))
    · rw [nI_clamp (by omega), show vp_nar .boolean 0 = ta_01 false from rfl] at ek
      rw [decide_eq_false (by omega)] at ih
      subst ek
      exact ih
    · rw [nI_clamp (by omega), show vp_nar .boolean 1 = ta_01 true from rfl] at ek
      rw [decide_eq_true z] at ih
      subst ek
      exact ih
theorem ta_ycm {post : Int32 → SY → Prop} {a b c : Nat → Int32} {t m : Nat} {F G : Nat → Nat} {B : Nat → Bool} (hT : ta_T a b c t m F G) (ht : t < 3) (hB : ∀ p, p < 64 → B p = !decide (0 < ta_cn (ta_mt F G p (p + 1)) m)) (h64 : B 64 = false) (H : ∀ a' b' c' mk' : Nat → Int32, ta_F a b c a' b' c' t → ta_T a' b' c' t (ta_K B 64) (ta_S B 64) (ta_E B 64) → post (nI (ta_K B 64)) (a', b', c', mk')) : ∀ (d p : Nat) (mk : Nat → Int32), p + d = 64 → (∀ q, q < p → mk q = ta_01 (B q)) → wY_complement_12 post (nI t) (d + 1) (nI p) a b c mk
  | 0, p, w0, hd, h => by
    obtain rfl : p = 64 := by omega
    exact pk_le 64 64 (fun _ => ta_yr ht h h64 (fun a' b' c' x1 x2 => H a' b' c' w0 x1 x2)) (fun z => absurd z (by omega))
  | d + 1, p, w0, hd, h => by
    have hm := hT.2.1
    have bn := ta_cnle (ta_mt F G p (p + 1)) m
    have ih := ta_ycm hT ht hB h64 H d (p + 1) _ (by omega) (ta_mkS h)
    have vp : vp_in (nI p) 64 := pk_in p 64 (by omega)
    rw [hB p (by omega)] at ih
    refine pk_le 64 p (fun z => absurd z (by omega)) (fun _ => ta_yd hT ht (by omega) (pk_eq (ta_cn (ta_mt F G p (p + 1)) m) 0 (fun z => ⟨vp, fun k ek => nm_r (nI_1 p) ?_⟩) (fun z => ⟨vp, fun k ek => nm_r (nI_1 p) ?_⟩)))
    · rw [nI_clamp (by omega), show vp_nar .boolean 1 = ta_01 (!false) from rfl] at ek
      rw [decide_eq_false (by omega)] at ih
      subst ek
      exact ih
    · rw [nI_clamp (by omega), show vp_nar .boolean 0 = ta_01 (!true) from rfl] at ek
      rw [decide_eq_true (by omega)] at ih
      subst ek
      exact ih
theorem i_vc_merge {k : Nat} {u : SX} {v : SY} (I : i_Rel k u v) (hk : k + 5 ≤ 2560) (v1 : Int32) : wpX_merge (fun r u' => wpY_merge (fun r' v' => r' = r ∧ i_Rel (k + 5) u' v') v v1) u v1 := by
  obtain ⟨a, b, c⟩ := u
  obtain ⟨f, g, h, mk⟩ := v
  unfold wpX_merge wpY_merge
  dsimp only
  rcases ta_trk v1 with ⟨hx, hy⟩ | ⟨t, ht, rfl, hx, hy⟩
  · exact hx _ (br_t rfl (hy _ _ (br_f ta_10 ⟨rfl, i_up I⟩)))
  · obtain ⟨m, F, G, hX, hY⟩ := ta_I I ht
    refine hx _ (br_f ta_10 (ta_xco hX ht (fun r hr => ta_xb ht (fun a' b' c' x1 x2 => hy _ _ (br_t rfl ⟨65, ?_⟩)))))
    exact ta_yml hY ht hr (ta_big (Nat.le_refl 64)) (fun f' g' h' mk' y1 y2 => ⟨rfl, ta_R I x1 y1 x2 y2 _⟩) 64 0 mk rfl (fun q hq => absurd hq (Nat.not_lt_zero _))
theorem i_vc_complement {k : Nat} {u : SX} {v : SY} (I : i_Rel k u v) (hk : k + 5 ≤ 2560) (v1 : Int32) : wpX_complement (fun r u' => wpY_complement (fun r' v' => r' = r ∧ i_Rel (k + 5) u' v') v v1) u v1 := by
  obtain ⟨a, b, c⟩ := u
  obtain ⟨f, g, h, mk⟩ := v
  unfold wpX_complement wpY_complement
  dsimp only
  rcases ta_trk v1 with ⟨hx, hy⟩ | ⟨t, ht, rfl, hx, hy⟩
  · exact hx _ (br_t rfl (hy _ _ (br_f ta_10 ⟨rfl, i_up I⟩)))
  · obtain ⟨m, F, G, hX, hY⟩ := ta_I I ht
    refine hx _ (br_f ta_10 (ta_xco hX ht (fun r hr => ta_xb ht (fun a' b' c' x1 x2 => hy _ _ (br_t rfl ⟨65, ?_⟩)))))
    exact ta_ycm hY ht (fun p hp => by rw [ta_not hp, hr p hp]) (ta_big (Nat.le_refl 64)) (fun f' g' h' mk' y1 y2 => ⟨rfl, ta_R I x1 y1 x2 y2 _⟩) 64 0 mk rfl (fun q hq => absurd hq (Nat.not_lt_zero _))
/-- what the four kinds join -/
def ta_op : Nat → Bool → Bool → Bool
  | 0, x, y => x && y
  | 1, x, y => x || y
  | 2, x, y => x ^^ y
  | _, x, y => x && !y
theorem ta_xj {post : Int64 → Prop} {k : Nat} (hk : k ≤ 3) {x y : Int64} (H : ∀ r : Int64, (∀ p, p < 64 → ta_bt r p = ta_op k (ta_bt x p) (ta_bt y p)) → post r) : wpX_joinedCovers post (nI k) x y := by
  unfold wpX_joinedCovers
  refine br_f (nI_pos (by omega)) ?_
  rcases (by omega : k = 0 ∨ k = 1 ∨ k = 2 ∨ k = 3) with rfl | rfl | rfl | rfl
  · exact br_f (by decide) (br_t rfl (H _ (fun p _ => ta_and x y p)))
  · exact br_f (by decide) (br_f (by decide) (br_t rfl (H _ (fun p _ => ta_or x y p))))
  · exact br_f (by decide) (br_f (by decide) (br_f (by decide) (br_t rfl (H _ (fun p _ => ta_xor x y p)))))
  · exact br_t (by decide) (H _ (fun p hp => by rw [ta_and, ta_not hp]; rfl))
theorem ta_yj {post : Int32 → SY → Prop} {J : Int32 → (Nat → Int32) → (Nat → Int32) → (Nat → Int32) → (Nat → Int32) → Prop} {a b c mk : Nat → Int32} {k p : Nat} {x2 x3 : Int32} (hk : k ≤ 3) (hp : p < 64) (A B : Bool) (h : J (nI (p + 1)) a b c (upd mk p (ta_01 (ta_op k A B)))) : wY_join_72 post J (nI k) x2 x3 (nI p) (ta_01 A) (ta_01 B) a b c mk := by
  have vp : vp_in (nI p) 64 := pk_in p 64 hp
  have st : ∀ (x : Bool) (m : Nat → Int32), m = upd mk (nI p).toNatClampNeg (vp_nar .boolean (ta_01 x)) → x = ta_op k A B → ∀ z : Int32, z = nI p + 1 → J z a b c m := by
    intro x m em ex
    refine nm_r (nI_1 p) ?_
    rw [nI_clamp (by omega), ta_nar, ex] at em
    rw [em]
    exact h
  rcases (by omega : k = 0 ∨ k = 1 ∨ k = 2 ∨ k = 3) with rfl | rfl | rfl | rfl
  · have tl : ∀ (x : Bool) (m : Nat → Int32), m = upd mk (nI p).toNatClampNeg (vp_nar .boolean (ta_01 x)) → x = ta_op 0 A B → wY_join_100 post J (nI 0) x2 x3 (nI p) (ta_01 A) (ta_01 B) a b c m := fun x m em ex => br_f (by decide) (br_f (by decide) (br_f (by decide) (st x m em ex)))
    refine br_t rfl ?_
    cases A
    · exact br_t rfl ⟨vp, fun m em => tl false m em rfl⟩
    · refine br_f ta_10 ?_
      cases B
      · exact br_t rfl ⟨vp, fun m em => tl false m em rfl⟩
      · exact br_f ta_10 ⟨vp, fun m em => tl true m em rfl⟩
  · have tl : ∀ (x : Bool) (m : Nat → Int32), m = upd mk (nI p).toNatClampNeg (vp_nar .boolean (ta_01 x)) → x = ta_op 1 A B → wY_join_127 post J (nI 1) x2 x3 (nI p) (ta_01 A) (ta_01 B) a b c m := fun x m em ex => br_f (by decide) (br_f (by decide) (st x m em ex))
    refine br_f (by decide) (br_t rfl ?_)
    cases A
    · refine br_t rfl ?_
      cases B
      · exact br_t rfl ⟨vp, fun m em => tl false m em rfl⟩
      · exact br_f ta_10 ⟨vp, fun m em => tl true m em rfl⟩
    · exact br_f ta_10 ⟨vp, fun m em => tl true m em rfl⟩
  · have tl : ∀ (x : Bool) (m : Nat → Int32), m = upd mk (nI p).toNatClampNeg (vp_nar .boolean (ta_01 x)) → x = ta_op 2 A B → wY_join_151 post J (nI 2) x2 x3 (nI p) (ta_01 A) (ta_01 B) a b c m := fun x m em ex => br_f (by decide) (st x m em ex)
    refine br_f (by decide) (br_f (by decide) (br_t rfl ?_))
    cases A <;> cases B
    · exact br_t rfl ⟨vp, fun m em => tl false m em rfl⟩
    · exact br_f (by decide) ⟨vp, fun m em => tl true m em rfl⟩
    · exact br_f (by decide) ⟨vp, fun m em => tl true m em rfl⟩
    · exact br_t rfl ⟨vp, fun m em => tl false m em rfl⟩
  · refine br_f (by decide) (br_f (by decide) (br_f (by decide) (br_t rfl ?_)))
    cases A
    · exact br_t rfl ⟨vp, fun m em => st false m em rfl⟩
    · refine br_f ta_10 ?_
      cases B
      · exact br_t rfl ⟨vp, fun m em => st true m em rfl⟩
      · exact br_f ta_10 ⟨vp, fun m em => st false m em rfl⟩
theorem ta_yj55 {post : Int32 → SY → Prop} {J : Int32 → (Nat → Int32) → (Nat → Int32) → (Nat → Int32) → (Nat → Int32) → Prop} {a b c mk : Nat → Int32} {k p w n : Nat} {P Q : Nat → Nat} {x2 : Int32} (hk : k ≤ 3) (hp : p < 64) (hW : ta_T a b c w n P Q) (hw : w < 3) (A : Bool) (h : J (nI (p + 1)) a b c (upd mk p (ta_01 (ta_op k A (decide (0 < ta_cn (ta_mt P Q p (p + 1)) n)))))) : wY_join_55 post J (nI k) x2 (nI w) (nI p) (ta_01 A) a b c mk := by
  have hn := hW.2.1
  have b2 := ta_cnle (ta_mt P Q p (p + 1)) n
  refine ta_yd hW hw hp (pk_le (ta_cn (ta_mt P Q p (p + 1)) n) 0 (fun z => ?_) (fun z => ?_))
  · rw [decide_eq_false (by omega)] at h
    exact ta_yj hk hp A false h
  · rw [decide_eq_true z] at h
    exact ta_yj hk hp A true h
theorem ta_yjl {post : Int32 → SY → Prop} {a b c : Nat → Int32} {k t m w n : Nat} {F G P Q : Nat → Nat} {B : Nat → Bool} (hk : k ≤ 3) (hT : ta_T a b c t m F G) (ht : t < 3) (hW : ta_T a b c w n P Q) (hw : w < 3) (hB : ∀ p, p < 64 → B p = ta_op k (decide (0 < ta_cn (ta_mt F G p (p + 1)) m)) (decide (0 < ta_cn (ta_mt P Q p (p + 1)) n))) (h64 : B 64 = false) (H : ∀ a' b' c' mk' : Nat → Int32, ta_F a b c a' b' c' t → ta_T a' b' c' t (ta_K B 64) (ta_S B 64) (ta_E B 64) → post (nI (ta_K B 64)) (a', b', c', mk')) : ∀ (d p : Nat) (w0 : Nat → Int32), p + d = 64 → (∀ q, q < p → w0 q = ta_01 (B q)) → wY_join_33 post (nI k) (nI t) (nI w) (d + 1) (nI p) a b c w0
  | 0, p, w0, hd, h => by
    obtain rfl : p = 64 := by omega
    exact pk_le 64 64 (fun _ => ta_yr ht h h64 (fun a' b' c' x1 x2 => H a' b' c' w0 x1 x2)) (fun z => absurd z (by omega))
  | d + 1, p, w0, hd, h => by
    have hm := hT.2.1
    have b1 := ta_cnle (ta_mt F G p (p + 1)) m
    have ih := ta_yjl hk hT ht hW hw hB h64 H d (p + 1) _ (by omega) (ta_mkS h)
    rw [hB p (by omega)] at ih
    refine pk_le 64 p (fun z => absurd z (by omega)) (fun _ => ta_yd hT ht (by omega) (pk_le (ta_cn (ta_mt F G p (p + 1)) m) 0 (fun z => ?_) (fun z => ?_)))
    · rw [decide_eq_false (show ¬ 0 < ta_cn (ta_mt F G p (p + 1)) m by omega)] at ih
      exact ta_yj55 hk (by omega) hW hw false ih
    · rw [decide_eq_true z] at ih
      exact ta_yj55 hk (by omega) hW hw true ih
theorem i_vc_join {k : Nat} {u : SX} {v : SY} (I : i_Rel k u v) (hk : k + 5 ≤ 2560) (v1 : Int32) (v2 : Int32) (v3 : Int32) : wpX_join (fun r u' => wpY_join (fun r' v' => r' = r ∧ i_Rel (k + 5) u' v') v v1 v2 v3) u v1 v2 v3 := by
  obtain ⟨a, b, c⟩ := u
  obtain ⟨f, g, h, mk⟩ := v
  unfold wpX_join wpY_join
  dsimp only
  by_cases z : v1 < 0
  · exact br_t z (br_t z ⟨rfl, i_up I⟩)
  · by_cases y : v1 ≤ 3
    · refine br_f z (br_t y ?_)
      rcases ta_trk v2 with ⟨hx, hy⟩ | ⟨t, ht, rfl, hx, hy⟩
      · exact hx _ (br_t rfl (br_f z (br_t y (hy _ _ (br_f ta_10 ⟨rfl, i_up I⟩)))))
      · rcases ta_trk v3 with ⟨kx, ky⟩ | ⟨w, hw, rfl, kx, ky⟩
        · exact hx _ (br_f ta_10 (kx _ (br_t rfl (br_f z (br_t y (hy _ _ (br_t rfl (ky _ _ (br_f ta_10 ⟨rfl, i_up I⟩)))))))))
        · obtain ⟨m, F, G, hX, hY⟩ := ta_I I ht
          obtain ⟨n, P, Q, hX2, hY2⟩ := ta_I I hw
          obtain ⟨q, hq, rfl⟩ := nI_of2 (n := 3) (by decide) z y
          refine hx _ (br_f ta_10 (kx _ (br_f ta_10 (ta_xco hX ht (fun r1 h1 => ta_xco hX2 hw (fun r2 h2 => ta_xj hq (fun r hr => ta_xb ht (fun a' b' c' x1 x2 => br_f z (br_t y (hy _ _ (br_t rfl (ky _ _ (br_t rfl ⟨65, ?_⟩)))))))))))))
          exact ta_yjl hq hY ht hY2 hw (fun p hp => by rw [hr p hp, h1 p hp, h2 p hp]) (ta_big (Nat.le_refl 64)) (fun f' g' h' mk' y1 y2 => ⟨rfl, ta_R I x1 y1 x2 y2 _⟩) 64 0 mk rfl (fun q hq => absurd hq (Nat.not_lt_zero _))
    · exact br_f z (br_f y (br_f z (br_f y ⟨rfl, i_up I⟩)))
end
