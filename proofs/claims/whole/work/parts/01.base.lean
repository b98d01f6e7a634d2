theorem pk_us {f : Nat → Int32} {k : Nat} {x : Int32} : upd f k x k = x := if_pos rfl
theorem pk_un {f : Nat → Int32} {k j : Nat} {x : Int32} (h : j ≠ k) : upd f k x j = f j := if_neg h
theorem pk_sub {a b : Nat} (h : b ≤ a) : nI a - nI b = nI (a - b) := by
  obtain ⟨c, rfl⟩ : ∃ c, a = c + b := ⟨a - b, by omega⟩
  rw [← nI_add, Int32.add_sub_cancel, Nat.add_sub_cancel]
theorem pk_m1 (n : Nat) : nI (n + 1) + (-1) = nI n := by
  rw [← nI_1, Int32.add_assoc, show (1 : Int32) + (-1) = 0 from rfl, Int32.add_zero]
theorem pk_mul (a b : Nat) : nI a * nI b = nI (a * b) := (Int32.ofNat_mul a b).symm
theorem pk_div {a d : Nat} (ha : a < 2 ^ 31) (h0 : 0 < d) (hd : d < 2 ^ 31) : nI a / nI d = nI (a / d) := by
  apply Int32.toInt_inj.mp
  rw [lg_idiv_nonneg (by rw [nI_toInt ha]; omega) (by rw [nI_toInt hd]; omega), nI_toInt ha, nI_toInt hd, nI_toInt (Nat.lt_of_le_of_lt (Nat.div_le_self a d) ha)]
  first | rfl | exact (Int.natCast_ediv _ _).symm
theorem pk_rem {a d : Nat} (ha : a < 2 ^ 31) (h0 : 0 < d) (hd : d < 2 ^ 31) : nI a - nI a / nI d * nI d = nI (a % d) := by
  rw [pk_div ha h0 hd, pk_mul, pk_sub (Nat.div_mul_le_self a d)]
  exact congrArg nI (by have := Nat.div_add_mod' a d; omega)
theorem pk_ix (x : Int32) {n : Nat} (hn : n < 2 ^ 31) : x < 0 ∨ nI n ≤ x ∨ ∃ j : Nat, j < n ∧ x = nI j := by
  by_cases h : x < 0
  · exact Or.inl h
  · obtain ⟨j, hj, rfl⟩ := nI_of h
    by_cases h2 : j < n
    · exact Or.inr (Or.inr ⟨j, h2, rfl⟩)
    · exact Or.inr (Or.inl (nI_le (by omega) hj))
theorem pk_le {x y : Int32} {A B : Prop} (a b : Nat) (f : a ≤ b → A) (g : b < a → B) (hx : x = nI a := by rfl) (hy : y = nI b := by rfl) (ha : a < 2 ^ 31 := by omega) (hb : b < 2 ^ 31 := by omega) : (x ≤ y → A) ∧ (¬ x ≤ y → B) := by
  subst hx hy
  rw [nI_leI ha hb]
  exact ⟨f, fun z => g (by omega)⟩
theorem pk_lt {x y : Int32} {A B : Prop} (a b : Nat) (f : a < b → A) (g : b ≤ a → B) (hx : x = nI a := by rfl) (hy : y = nI b := by rfl) (ha : a < 2 ^ 31 := by omega) (hb : b < 2 ^ 31 := by omega) : (x < y → A) ∧ (¬ x < y → B) := by
  subst hx hy
  rw [nI_ltI ha hb]
  exact ⟨f, fun z => g (by omega)⟩
theorem pk_eq {x y : Int32} {A B : Prop} (a b : Nat) (f : a = b → A) (g : a ≠ b → B) (hx : x = nI a := by rfl) (hy : y = nI b := by rfl) (ha : a < 2 ^ 31 := by omega) (hb : b < 2 ^ 31 := by omega) : (x = y → A) ∧ (¬ x = y → B) := by
  subst hx hy
  rw [nI_eq ha hb]
  exact ⟨f, g⟩
theorem pk_in {x : Int32} (n N : Nat) (h : n < N) (hx : x = nI n := by rfl) (hN : N < 2 ^ 31 := by omega) : vp_in x N := by
  subst hx
  exact vp_in_nI h hN
theorem pk_cl {x : Int32} (n : Nat) (hx : x = nI n := by rfl) (h : n < 2 ^ 31 := by omega) : x.toNatClampNeg = n := by
  subst hx
  exact nI_clamp h
theorem ts_bit {w : Int64} {s : UInt64} {j : Nat} (hj : j < 64) (hs : s.toNat = j) : ((w.toUInt64 >>> s).toInt64 &&& 1) = 0 ↔ w.toBitVec.getLsbD j = false := by
  have e : (w.toUInt64 >>> s).toInt64.toBitVec = w.toBitVec >>> j := by
    apply BitVec.eq_of_toNat_eq
    show (w.toUInt64 >>> s).toNat = _
    rw [UInt64.toNat_shiftRight, hs, Nat.mod_eq_of_lt hj, BitVec.toNat_ushiftRight]
    rfl
  rw [← Int64.toBitVec_inj, Int64.toBitVec_and, e]
  show w.toBitVec >>> j &&& 1#64 = 0#64 ↔ _
  constructor
  · intro h
    have t := congrArg (fun x => x.getLsbD 0) h
    simpa using t
  · intro h
    apply BitVec.eq_of_getLsbD_eq
    intro i hi
    cases i with
    | zero => simp [h]
    | succ i => simp
theorem wb_tb (n : Nat) : (lN n).toBitVec = BitVec.ofNat 64 n := rfl
theorem wb_c : ∀ k, k < 64 → ((nI k).toInt64 &&& 63) = lN k := by decide +kernel
theorem wb_cu : ∀ k, k < 64 → ((nI k).toInt64.toUInt64 &&& Int64.toUInt64 63) = UInt64.ofNat k := by decide +kernel
theorem wb_sm : ∀ k, k < 64 → (BitVec.ofNat 64 k).smod 64 = BitVec.ofNat 64 k := by decide +kernel
/-! ===== the picture of a track, the frame of a change, the relation ===== -/
/-- track t of the arrays (a, b, c) holds m stretches, the i-th from F i to G i -/
def ta_T (a b c : Nat → Int32) (t m : Nat) (F G : Nat → Nat) : Prop :=
  c t = nI m ∧ m ≤ 32 ∧ ∀ i, i < m → a (32 * t + i) = nI (F i) ∧ b (32 * t + i) = nI (G i) ∧ F i < G i ∧ G i ≤ 64
/-- nothing but track t has changed -/
def ta_F (a b c a' b' c' : Nat → Int32) (t : Nat) : Prop :=
  (∀ p, (p < 32 * t ∨ 32 * t + 32 ≤ p) → a' p = a p ∧ b' p = b p) ∧ ∀ s, s ≠ t → c' s = c s
def i_Rel (_ : Nat) (u : SX) (v : SY) : Prop :=
  ∀ t, t < 3 → ∃ m F G, ta_T u.1 u.2.1 u.2.2 t m F G ∧ ta_T v.1 v.2.1 v.2.2.1 t m F G
theorem i_up {k : Nat} {u : SX} {v : SY} (h : i_Rel k u v) : i_Rel (k + 5) u v := h
theorem i_vc0 : wpX_init (fun u => wpY_init (fun v => i_Rel 0 u v)) :=
  fun _ _ => ⟨0, fun _ => 0, fun _ => 0, ⟨rfl, by omega, fun _ h => absurd h (Nat.not_lt_zero _)⟩, ⟨rfl, by omega, fun _ h => absurd h (Nat.not_lt_zero _)⟩⟩
theorem ta_Fr {a b c : Nat → Int32} {t : Nat} : ta_F a b c a b c t := ⟨fun _ _ => ⟨rfl, rfl⟩, fun _ _ => rfl⟩
theorem ta_Ft {a b c a1 b1 c1 a2 b2 c2 : Nat → Int32} {t : Nat} (h : ta_F a b c a1 b1 c1 t) (h2 : ta_F a1 b1 c1 a2 b2 c2 t) : ta_F a b c a2 b2 c2 t :=
  ⟨fun p hp => ⟨(h2.1 p hp).1.trans (h.1 p hp).1, (h2.1 p hp).2.trans (h.1 p hp).2⟩, fun s hs => (h2.2 s hs).trans (h.2 s hs)⟩
theorem ta_TF {a b c a' b' c' : Nat → Int32} {t s m : Nat} {F G : Nat → Nat} (h : ta_F a b c a' b' c' t) (hs : s ≠ t) (hT : ta_T a b c s m F G) : ta_T a' b' c' s m F G := by
  have hm := hT.2.1
  refine ⟨(h.2 s hs).trans hT.1, hT.2.1, fun i hi => ?_⟩
  have e := h.1 (32 * s + i) (by omega)
  have q := hT.2.2 i hi
  exact ⟨e.1.trans q.1, e.2.trans q.2.1, q.2.2⟩
theorem ta_TC {a b c : Nat → Int32} {t m : Nat} {F G F' G' : Nat → Nat} (h : ta_T a b c t m F G) (e : ∀ i, i < m → F' i = F i ∧ G' i = G i) : ta_T a b c t m F' G' := by
  refine ⟨h.1, h.2.1, fun i hi => ?_⟩
  rw [(e i hi).1, (e i hi).2]
  exact h.2.2 i hi
theorem ta_R {k : Nat} {a b c a' b' c' f g h f' g' h' mk mk' : Nat → Int32} {t m : Nat} {F G : Nat → Nat} (I : i_Rel k (a, b, c) (f, g, h, mk)) (x : ta_F a b c a' b' c' t) (y : ta_F f g h f' g' h' t) (hx : ta_T a' b' c' t m F G) (hy : ta_T f' g' h' t m F G) (j : Nat) : i_Rel j (a', b', c') (f', g', h', mk') := by
  intro s hs
  by_cases e : s = t
  · subst e; exact ⟨m, F, G, hx, hy⟩
  · obtain ⟨n, P, Q, h1, h2⟩ := I s hs
    exact ⟨n, P, Q, ta_TF x e h1, ta_TF y e h2⟩
theorem ta_c {a b c : Nat → Int32} {t m : Nat} {F G : Nat → Nat} (h : ta_T a b c t m F G) (ht : t < 3) : c (nI t).toNatClampNeg = nI m := by
  rw [nI_clamp (by omega)]; exact h.1
theorem ta_pl (t i : Nat) : nI t * 32 + nI i = nI (32 * t + i) := by
  show nI t * nI 32 + nI i = _
  rw [pk_mul, nI_add, Nat.mul_comm]
theorem ta_p0 (t : Nat) : nI t * 32 = nI (32 * t) := by
  show nI t * nI 32 = _
  rw [pk_mul, Nat.mul_comm]
theorem ta_g {a : Nat → Int32} {q x : Int32} (p : Nat) (hq : q = nI p) (h : a p = x) (hp : p < 2 ^ 31) : a q.toNatClampNeg = x := by
  rw [hq, nI_clamp hp]; exact h
theorem ta_10 : ¬ (1 : Int32) = 0 := by decide
theorem ta_65 : ¬ (65 : Int32) = 0 := by decide
/-! ===== the guards ===== -/
theorem ta_trk (x : Int32) : ((∀ post : Int32 → Prop, post 0 → wpX_isTrack post x) ∧ (∀ (v : SY) (post : Int32 → Prop), post 1 → wpY_badTrack post v x)) ∨ ∃ t : Nat, t < 3 ∧ x = nI t ∧ (∀ post : Int32 → Prop, post 1 → wpX_isTrack post x) ∧ (∀ (v : SY) (post : Int32 → Prop), post 0 → wpY_badTrack post v x) := by
  rcases pk_ix x (n := 3) (by omega) with h | h | ⟨t, ht, rfl⟩
  · exact Or.inl ⟨fun _ p => br_t h p, fun ⟨_, _, _, _⟩ _ p => br_t h p⟩
  · have h0 : ¬ x < 0 := fun z => absurd (Int32.lt_of_le_of_lt h z) (by decide)
    have h2 : ¬ x ≤ 2 := fun z => absurd (Int32.le_trans h z) (by decide)
    exact Or.inl ⟨fun _ p => br_f h0 (br_t h p), fun ⟨_, _, _, _⟩ _ p => br_f h0 (br_f h2 p)⟩
  · have h0 : ¬ nI t < 0 := nI_pos (by omega)
    have h3 : ¬ (3 : Int32) ≤ nI t := nI_ge (b := 3) ht (by decide)
    have h2 : nI t ≤ 2 := nI_le (b := 2) (by omega) (by decide)
    exact Or.inr ⟨t, ht, rfl, fun _ p => br_f h0 (br_f h3 p), fun ⟨_, _, _, _⟩ _ p => br_f h0 (br_t h2 p)⟩
theorem ta_str (x : Int32) : ((∀ post : Int32 → Prop, post 0 → wpX_isStretch post x) ∧ (∀ (v : SY) (post : Int32 → Prop), post 1 → wpY_badStretch post v x)) ∨ ∃ s e : Nat, s < e ∧ e ≤ 64 ∧ x / 65 = nI s ∧ x - x / 65 * 65 = nI e ∧ (∀ post : Int32 → Prop, post 1 → wpX_isStretch post x) ∧ (∀ (v : SY) (post : Int32 → Prop), post 0 → wpY_badStretch post v x) := by
  by_cases h : x < 0
  · exact Or.inl ⟨fun _ p => br_t h p, fun ⟨_, _, _, _⟩ _ p => br_t h p⟩
  · obtain ⟨k, hk, rfl⟩ := nI_of h
    have e1 : nI k / 65 = nI (k / 65) := pk_div (d := 65) hk (by decide) (by decide)
    have e2 : nI k - nI k / 65 * 65 = nI (k % 65) := pk_rem (d := 65) hk (by decide) (by decide)
    have b1 : k / 65 < 2 ^ 31 := by omega
    have b2 : k % 65 < 65 := by omega
    by_cases g : k / 65 < k % 65
    · refine Or.inr ⟨k / 65, k % 65, g, by omega, e1, e2, fun post p => br_f h ⟨ta_65, ta_65, ?_⟩, fun ⟨_, _, _, _⟩ post p => br_f h ⟨ta_65, ?_⟩⟩
      · exact pk_le (k % 65) (k / 65) (fun z => absurd z (by omega)) (fun _ => p) e2 e1
      · exact pk_lt 63 (k / 65) (fun z => absurd z (by omega)) (fun _ => ⟨ta_65, ta_65, pk_lt (k / 65) (k % 65) (fun _ => p) (fun z => absurd z (by omega)) e1 e2⟩) rfl e1
    · refine Or.inl ⟨fun post p => br_f h ⟨ta_65, ta_65, ?_⟩, fun ⟨_, _, _, _⟩ post p => br_f h ⟨ta_65, ?_⟩⟩
      · exact pk_le (k % 65) (k / 65) (fun _ => p) (fun z => absurd z (by omega)) e2 e1
      · exact pk_lt 63 (k / 65) (fun _ => p) (fun _ => ⟨ta_65, ta_65, pk_lt (k / 65) (k % 65) (fun z => absurd z (by omega)) (fun _ => p) e1 e2⟩) rfl e1
theorem ta_num {a b c f g h mk : Nat → Int32} {t m : Nat} {F G : Nat → Nat} (hX : ta_T a b c t m F G) (hY : ta_T f g h t m F G) (ht : t < 3) (x : Int32) : ((∀ post : Int32 → Prop, post 0 → wpX_isNumber post (a, b, c) (nI t) x) ∧ (∀ post : Int32 → Prop, post 1 → wpY_badNumber post (f, g, h, mk) (nI t) x)) ∨ ∃ i : Nat, i < m ∧ x = nI i ∧ (∀ post : Int32 → Prop, post 1 → wpX_isNumber post (a, b, c) (nI t) x) ∧ (∀ post : Int32 → Prop, post 0 → wpY_badNumber post (f, g, h, mk) (nI t) x) := by
  have hm := hX.2.1
  have hi : vp_in (nI t) 3 := vp_in_nI ht (by decide)
  by_cases z : x < 0
  · exact Or.inl ⟨fun _ p => br_t z p, fun _ p => br_t z p⟩
  · obtain ⟨k, hk, rfl⟩ := nI_of z
    by_cases q : k < m
    · exact Or.inr ⟨k, q, rfl, fun _ p => br_f z ⟨hi, pk_le m k (fun w => absurd w (by omega)) (fun _ => p) (ta_c hX ht) rfl⟩, fun _ p => br_f z ⟨hi, pk_lt k m (fun _ => p) (fun w => absurd w (by omega)) rfl (ta_c hY ht)⟩⟩
    · exact Or.inl ⟨fun _ p => br_f z ⟨hi, pk_le m k (fun _ => p) (fun w => absurd w (by omega)) (ta_c hX ht) rfl⟩, fun _ p => br_f z ⟨hi, pk_lt k m (fun w => absurd w (by omega)) (fun _ => p) rfl (ta_c hY ht)⟩⟩
/-! ===== counting ===== -/
def ta_cn (p : Nat → Bool) : Nat → Nat
  | 0 => 0
  | i + 1 => bif p i then ta_cn p i + 1 else ta_cn p i
theorem ta_cnt {p : Nat → Bool} {i : Nat} (h : p i = true) : ta_cn p (i + 1) = ta_cn p i + 1 := by
  rw [ta_cn, h]; rfl
theorem ta_cnf {p : Nat → Bool} {i : Nat} (h : p i = false) : ta_cn p (i + 1) = ta_cn p i := by
  rw [ta_cn, h]; rfl
theorem ta_cnle (p : Nat → Bool) : ∀ i, ta_cn p i ≤ i
  | 0 => Nat.le_refl 0
  | i + 1 => by
    have h := ta_cnle p i
    cases e : p i
    · rw [ta_cnf e]; omega
    · rw [ta_cnt e]; omega
theorem ta_cnc {p q : Nat → Bool} : ∀ i, (∀ j, j < i → p j = q j) → ta_cn p i = ta_cn q i
  | 0, _ => rfl
  | i + 1, h => by
    have h1 := ta_cnc i (fun j hj => h j (by omega))
    rw [ta_cn, ta_cn, h1, h i (by omega)]
theorem ta_cnmono {p : Nat → Bool} {i : Nat} : ∀ d, ta_cn p i ≤ ta_cn p (i + d)
  | 0 => Nat.le_refl _
  | d + 1 => by
    have h := ta_cnmono (p := p) (i := i) d
    have e : i + (d + 1) = (i + d) + 1 := by omega
    rw [e]
    cases z : p (i + d)
    · rw [ta_cnf z]; omega
    · rw [ta_cnt z]; omega
