/-! ===== covers as sets of bits; shared ===== -/
def ta_bt (x : Int64) (p : Nat) : Bool := x.toBitVec.getLsbD p
theorem ta_ush {x : Int64} {p : Nat} (hp : p < 64) : ((x.toUInt64 >>> ((nI p).toInt64.toUInt64 &&& Int64.toUInt64 63)).toInt64).toBitVec = x.toBitVec >>> p := by
  rw [wb_cu p hp]
  apply BitVec.eq_of_toNat_eq
  show (x.toUInt64 >>> UInt64.ofNat p).toNat = _
  have h1 : (UInt64.ofNat p).toNat = p := by
    show (BitVec.ofNat 64 p).toNat = p
    rw [BitVec.toNat_ofNat, Nat.mod_eq_of_lt (by omega)]
  rw [UInt64.toNat_shiftRight, h1, Nat.mod_eq_of_lt hp, BitVec.toNat_ushiftRight]
  rfl
theorem ta_b1 {x : Int64} {p : Nat} (hp : p < 64) : (((x.toUInt64 >>> ((nI p).toInt64.toUInt64 &&& Int64.toUInt64 63)).toInt64) &&& 1) = 1 ↔ ta_bt x p = true := by
  rw [← Int64.toBitVec_inj, Int64.toBitVec_and, ta_ush hp]
  show x.toBitVec >>> p &&& 1#64 = 1#64 ↔ x.toBitVec.getLsbD p = true
  constructor
  · intro h
    have t := congrArg (fun x => x.getLsbD 0) h
    simpa using t
  · intro h
    apply BitVec.eq_of_getLsbD_eq
    intro i hi
    cases i with
    | zero => simp [h]
    | succ i => simp
theorem ta_xin {post : Int32 → Prop} {x : Int64} {p : Nat} (hp : p < 64) (h1 : ta_bt x p = true → post 1) (h0 : ta_bt x p = false → post 0) : wpX_isIn post x (nI p) := by
  unfold wpX_isIn
  rw [ta_b1 hp]
  refine ⟨h1, fun z => h0 ?_⟩
  cases e : ta_bt x p
  · rfl
  · exact absurd e z
theorem ta_or (x y : Int64) (p : Nat) : ta_bt (x ||| y) p = (ta_bt x p || ta_bt y p) := by
  unfold ta_bt
  rw [Int64.toBitVec_or, BitVec.getLsbD_or]
theorem ta_and (x y : Int64) (p : Nat) : ta_bt (x &&& y) p = (ta_bt x p && ta_bt y p) := by
  unfold ta_bt
  rw [Int64.toBitVec_and, BitVec.getLsbD_and]
theorem ta_xor (x y : Int64) (p : Nat) : ta_bt (x ^^^ y) p = (ta_bt x p ^^ ta_bt y p) := by
  unfold ta_bt
  rw [Int64.toBitVec_xor, BitVec.getLsbD_xor]
theorem ta_ones : (-1 : Int64).toBitVec = BitVec.allOnes 64 := by decide
theorem ta_bm1 {p : Nat} (hp : p < 64) : ta_bt (-1) p = true := by
  unfold ta_bt
  rw [ta_ones, BitVec.getLsbD_allOnes]
  exact decide_eq_true hp
theorem ta_not {x : Int64} {p : Nat} (hp : p < 64) : ta_bt (x ^^^ (-1)) p = !ta_bt x p := by
  rw [ta_xor, ta_bm1 hp]
  cases ta_bt x p <;> rfl
theorem ta_big {x : Int64} {p : Nat} (hp : 64 ≤ p) : ta_bt x p = false := BitVec.getLsbD_of_ge _ _ hp
theorem ta_b0 (p : Nat) : ta_bt 0 p = false := BitVec.getLsbD_zero
theorem ta_msk {s e p : Nat} (hse : s < e) (be : e ≤ 64) (hp : p < 64) : ta_bt ((((-1 : Int64).toUInt64 >>> ((64 - (nI e - nI s)).toInt64.toUInt64 &&& Int64.toUInt64 63)).toInt64) <<< ((nI s).toInt64 &&& 63)) p = decide (s < p + 1 ∧ p < e) := by
  have e1 : (64 : Int32) - (nI e - nI s) = nI (64 - (e - s)) := by
    rw [pk_sub (by omega)]
    exact pk_sub (a := 64) (by omega)
  unfold ta_bt
  rw [e1, wb_c s (by omega), Int64.toBitVec_shiftLeft, wb_tb, wb_sm s (by omega), ta_ush (by omega), ta_ones, BitVec.shiftLeft_eq', BitVec.toNat_ofNat, Nat.mod_eq_of_lt (by omega), BitVec.getLsbD_shiftLeft, BitVec.getLsbD_ushiftRight, BitVec.getLsbD_allOnes]
  by_cases h : s < p + 1 ∧ p < e
  · rw [decide_eq_true h, decide_eq_true hp, decide_eq_false (show ¬ p < s by omega), decide_eq_true (show 64 - (e - s) + (p - s) < 64 by omega)]
    rfl
  · rw [decide_eq_false h]
    by_cases k : p < s
    · rw [decide_eq_true k]
      simp
    · rw [decide_eq_false (show ¬ 64 - (e - s) + (p - s) < 64 by omega)]
      simp
theorem ta_xco_l {post : Int64 → Prop} {a b c : Nat → Int32} {t m : Nat} {F G : Nat → Nat} (hT : ta_T a b c t m F G) (ht : t < 3) (H : ∀ r : Int64, (∀ p, p < 64 → ta_bt r p = decide (0 < ta_cn (ta_mt F G p (p + 1)) m)) → post r) : ∀ (d i : Nat) (x : Int64), i + d = m → (∀ p, p < 64 → ta_bt x p = decide (0 < ta_cn (ta_mt F G p (p + 1)) i)) → wX_coverOf_5 post (nI t) a b c (d + 1) x (nI i)
  | 0, i, x, hi, h => by
    have hm := hT.2.1
    obtain rfl : i = m := by omega
    exact ⟨pk_in t 3 ht, pk_le i i (fun _ => H x h) (fun z => absurd z (by omega)) (ta_c hT ht) rfl⟩
  | d + 1, i, x, hi, h => by
    have hm := hT.2.1
    have q := hT.2.2 i (by omega)
    have vi : vp_in (nI t * 32 + nI i) 96 := pk_in (32 * t + i) 96 (by omega) (ta_pl t i)
    refine ⟨pk_in t 3 ht, pk_le m i (fun z => absurd z (by omega)) (fun _ => ⟨vi, nm_r (ta_g _ (ta_pl t i) q.1 (by omega)) ⟨vi, nm_r (ta_g _ (ta_pl t i) q.2.1 (by omega)) (nm_e (nm_r (nI_1 i) ?_))⟩⟩) (ta_c hT ht) rfl⟩
    refine ta_xco_l hT ht H d (i + 1) _ (by omega) (fun p hp => ?_)
    rw [ta_or, h p hp, ta_msk q.2.2.1 q.2.2.2 hp]
    by_cases z : F i < p + 1 ∧ p < G i
    · rw [ta_cnt (ta_mtt z), decide_eq_true z, Bool.or_true]
      exact (decide_eq_true (by omega)).symm
    · rw [ta_cnf (ta_mtf z), decide_eq_false z, Bool.or_false]
theorem ta_xco {post : Int64 → Prop} {a b c : Nat → Int32} {t m : Nat} {F G : Nat → Nat} (hT : ta_T a b c t m F G) (ht : t < 3) (H : ∀ r : Int64, (∀ p, p < 64 → ta_bt r p = decide (0 < ta_cn (ta_mt F G p (p + 1)) m)) → post r) : wpX_coverOf post (a, b, c) (nI t) :=
  ⟨m + 1, ta_xco_l hT ht H m 0 0 (by omega) (fun p _ => by rw [ta_b0]; rfl)⟩
theorem ta_xcp_l {post : Int32 → Prop} {x : Int64} (H : post (nI (ta_cn (ta_bt x) 64))) : ∀ d i, i + d = 64 → wX_countPositions_4 post x (d + 1) (nI (ta_cn (ta_bt x) i)) (nI i)
  | 0, i, hi => by
    obtain rfl : i = 64 := by omega
    exact pk_le 64 64 (fun _ => H) (fun z => absurd z (by omega))
  | d + 1, i, hi => by
    have ih := ta_xcp_l H d (i + 1) (by omega)
    refine pk_le 64 i (fun z => absurd z (by omega)) (fun _ => ta_xin (by omega) (fun z => br_f ta_10 (nm_r (ta_n1 z) (nm_r (nI_1 i) ih))) (fun z => br_t rfl (nm_r (nI_1 i) ?_)))
    rw [ta_cnf z] at ih
    exact ih
def ta_sh (F G P Q : Nat → Nat) (m n p : Nat) : Bool := decide (0 < ta_cn (ta_mt F G p (p + 1)) m) && decide (0 < ta_cn (ta_mt P Q p (p + 1)) n)
theorem ta_ysh {post : Int32 → Prop} {a b c mk : Nat → Int32} {t m w n : Nat} {F G P Q : Nat → Nat} (hT : ta_T a b c t m F G) (ht : t < 3) (hW : ta_T a b c w n P Q) (hw : w < 3) (H : post (nI (ta_cn (ta_sh F G P Q m n) 64))) : ∀ d i, i + d = 64 → wY_shared_23 post (nI t) (nI w) a b c mk (d + 1) (nI (ta_cn (ta_sh F G P Q m n) i)) (nI i)
  | 0, i, hi => by
    obtain rfl : i = 64 := by omega
    exact pk_le 64 64 (fun _ => H) (fun z => absurd z (by omega))
  | d + 1, i, hi => by
    have hm := hT.2.1
    have hn := hW.2.1
    have ih := ta_ysh (mk := mk) hT ht hW hw H d (i + 1) (by omega)
    have b1 := ta_cnle (ta_mt F G i (i + 1)) m
    have b2 := ta_cnle (ta_mt P Q i (i + 1)) n
    refine pk_le 64 i (fun z => absurd z (by omega)) (fun _ => ta_yd hT ht (by omega) (pk_le (ta_cn (ta_mt F G i (i + 1)) m) 0 (fun z => ?_) (fun z => ta_yd hW hw (by omega) (pk_le (ta_cn (ta_mt P Q i (i + 1)) n) 0 (fun w => ?_) (fun w => ?_)))))
    · have e : ta_sh F G P Q m n i = false := by
        rw [ta_sh, decide_eq_false (by omega)]; rfl
      rw [ta_cnf e] at ih
      exact nm_r (nI_1 i) ih
    · have e : ta_sh F G P Q m n i = false := by
        rw [ta_sh, decide_eq_false (p := 0 < ta_cn (ta_mt P Q i (i + 1)) n) (by omega), Bool.and_false]
      rw [ta_cnf e] at ih
      exact nm_r (nI_1 i) ih
    · have e : ta_sh F G P Q m n i = true := by
        rw [ta_sh, decide_eq_true z, decide_eq_true w]; rfl
      exact nm_r (ta_n1 e) (nm_r (nI_1 i) ih)
theorem i_vc_shared {k : Nat} {u : SX} {v : SY} (I : i_Rel k u v) (hk : k + 5 ≤ 2560) (v1 : Int32) (v2 : Int32) : wpX_shared (fun r => wpY_shared (fun r' => r' = r ∧ i_Rel (k + 5) u v) v v1 v2) u v1 v2 := by
  obtain ⟨a, b, c⟩ := u
  obtain ⟨f, g, h, mk⟩ := v
  unfold wpX_shared wpY_shared
  dsimp only
  rcases ta_trk v1 with ⟨hx, hy⟩ | ⟨t, ht, rfl, hx, hy⟩
  · exact hx _ (br_t rfl (hy _ _ (br_f ta_10 ⟨rfl, i_up I⟩)))
  · rcases ta_trk v2 with ⟨kx, ky⟩ | ⟨w, hw, rfl, kx, ky⟩
    · exact hx _ (br_f ta_10 (kx _ (br_t rfl (hy _ _ (br_t rfl (ky _ _ (br_f ta_10 ⟨rfl, i_up I⟩)))))))
    · obtain ⟨m, F, G, hX, hY⟩ := ta_I I ht
      obtain ⟨n, P, Q, hX2, hY2⟩ := ta_I I hw
      refine hx _ (br_f ta_10 (kx _ (br_f ta_10 (ta_xco hX ht (fun r hr => ta_xco hX2 hw (fun q hq => ⟨65, ta_xcp_l ?_ 64 0 rfl⟩))))))
      have e : ta_cn (ta_bt (r &&& q)) 64 = ta_cn (ta_sh F G P Q m n) 64 := ta_cnc 64 (fun p hp => by rw [ta_and, hr p hp, hq p hp]; rfl)
      rw [e]
      exact hy _ _ (br_t rfl (ky _ _ (br_t rfl ⟨65, ta_ysh hY ht hY2 hw ⟨rfl, i_up I⟩ 64 0 rfl⟩)))
