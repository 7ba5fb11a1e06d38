theorem pk_us {f : Nat → Int32} {k : Nat} {x : Int32} : upd f k x k = x := if_pos rfl
theorem pk_un {f : Nat → Int32} {k j : Nat} {x : Int32} (h : j ≠ k) : upd f k x j = f j := if_neg h
theorem pk_sub {a b : Nat} (h : b ≤ a) : nI a - nI b = nI (a - b) := by
  obtain ⟨c, rfl⟩ : ∃ c, a = c + b := ⟨a - b, by omega⟩
  rw [← nI_add, Int32.add_sub_cancel, Nat.add_sub_cancel]
theorem pk_m1 (n : Nat) : nI (n + 1) + (-1) = nI n := by
  rw [← nI_1, Int32.add_assoc, show (1 : Int32) + (-1) = 0 from rfl, Int32.add_zero]
theorem pk_mul (a b : Nat) : nI a * nI b = nI (a * b) := (Int32.ofNat_mul a b).symm
theorem pk_div {a d : Nat} (ha : a < 2 ^ 31) (h0 : 0 < d) (hd : d < 2 ^ 31) : nI a / nI d = nI (a / d) := by
  apply Int32.toInt_inj.mp
  rw [lg_idiv_nonneg (by rw [nI_toInt ha]; omega) (by rw [nI_toInt hd]; omega), nI_toInt ha, nI_toInt hd, nI_toInt (Nat.lt_of_le_of_lt (Nat.div_le_self a d) ha)]
  first | rfl | exact (Int.natCast_ediv _ _).symm
theorem pk_rem {a d : Nat} (ha : a < 2 ^ 31) (h0 : 0 < d) (hd : d < 2 ^ 31) : nI a - nI a / nI d * nI d = nI (a % d) := by
  rw [pk_div ha h0 hd, pk_mul, pk_sub (Nat.div_mul_le_self a d)]
  exact congrArg nI (by have := Nat.div_add_mod' a d; omega)
theorem pk_ix (x : Int32) {n : Nat} (hn : n < 2 ^ 31) : x < 0 ∨ nI n ≤ x ∨ ∃ j : Nat, j < n ∧ x = nI j := by
  by_cases h : x < 0
  · exact Or.inl h
  · obtain ⟨j, hj, rfl⟩ := nI_of h
    by_cases h2 : j < n
    · exact Or.inr (Or.inr ⟨j, h2, rfl⟩)
    · exact Or.inr (Or.inl (nI_le (by omega) hj))
theorem pk_le {x y : Int32} {A B : Prop} (a b : Nat) (f : a ≤ b → A) (g : b < a → B) (hx : x = nI a := by rfl) (hy : y = nI b := by rfl) (ha : a < 2 ^ 31 := by omega) (hb : b < 2 ^ 31 := by omega) : (x ≤ y → A) ∧ (¬ x ≤ y → B) := by
  subst hx hy
  rw [nI_leI ha hb]
  exact ⟨f, fun z => g (by omega)⟩
theorem pk_lt {x y : Int32} {A B : Prop} (a b : Nat) (f : a < b → A) (g : b ≤ a → B) (hx : x = nI a := by rfl) (hy : y = nI b := by rfl) (ha : a < 2 ^ 31 := by omega) (hb : b < 2 ^ 31 := by omega) : (x < y → A) ∧ (¬ x < y → B) := by
  subst hx hy
  rw [nI_ltI ha hb]
  exact ⟨f, fun z => g (by omega)⟩
theorem pk_eq {x y : Int32} {A B : Prop} (a b : Nat) (f : a = b → A) (g : a ≠ b → B) (hx : x = nI a := by rfl) (hy : y = nI b := by rfl) (ha : a < 2 ^ 31 := by omega) (hb : b < 2 ^ 31 := by omega) : (x = y → A) ∧ (¬ x = y → B) := by
  subst hx hy
  rw [nI_eq ha hb]
  exact ⟨f, g⟩
theorem pk_in {x : Int32} (n N : Nat) (h : n < N) (hx : x = nI n := by rfl) (hN : N < 2 ^ 31 := by omega) : vp_in x N := by
  subst hx
  exact vp_in_nI h hN
theorem pk_cl {x : Int32} (n : Nat) (hx : x = nI n := by rfl) (h : n < 2 ^ 31 := by omega) : x.toNatClampNeg = n := by
  subst hx
  exact nI_clamp h
theorem pk_tn {n : Nat} (h : n < 2 ^ 32) : (nI n).toBitVec.toNat = n := Nat.mod_eq_of_lt h
theorem pk_and (x : Int32) {m : Int32} (k : Nat) (hm : m.toBitVec.toNat = 2 ^ k - 1) : x &&& m = nI (x.toBitVec.toNat % 2 ^ k) := by
  apply Int32.toBitVec_inj.mp
  apply BitVec.eq_of_toNat_eq
  rw [Int32.toBitVec_and, BitVec.toNat_and, hm, Nat.and_two_pow_sub_one_eq_mod]
  show _ = (BitVec.ofNat 32 _).toNat
  rw [BitVec.toNat_ofNat]
  exact (Nat.mod_eq_of_lt (Nat.lt_of_le_of_lt (Nat.mod_le _ _) x.toBitVec.isLt)).symm
theorem pk_andN {n : Nat} (h : n < 2 ^ 32) {m : Int32} (k : Nat) (hm : m.toBitVec.toNat = 2 ^ k - 1) : nI n &&& m = nI (n % 2 ^ k) := by
  rw [pk_and _ k hm, pk_tn h]
theorem pk_shl (a s : Int32) (k : Nat) (hs : (s.toBitVec.smod 32).toNat = k) : (a <<< s).toBitVec.toNat = a.toBitVec.toNat * 2 ^ k % 2 ^ 32 := by
  show (a.toBitVec <<< (s.toBitVec.smod 32).toNat).toNat = _
  rw [hs, BitVec.toNat_shiftLeft, Nat.shiftLeft_eq]
theorem pk_shlN {n : Nat} (s : Int32) (k : Nat) (hs : (s.toBitVec.smod 32).toNat = k) (h : n * 2 ^ k < 2 ^ 32) : nI n <<< s = nI (n * 2 ^ k) := by
  apply Int32.toBitVec_inj.mp
  apply BitVec.eq_of_toNat_eq
  have hn : n < 2 ^ 32 := Nat.lt_of_le_of_lt (Nat.le_mul_of_pos_right n (Nat.two_pow_pos k)) h
  rw [pk_shl _ _ k hs, pk_tn hn, pk_tn h, Nat.mod_eq_of_lt h]
theorem pk_shr (a s : Int32) (k : Nat) (hs : (s.toBitVec.smod 32).toNat = k) : (a >>> s).toInt = a.toInt >>> k := by
  show (a.toBitVec.sshiftRight (s.toBitVec.smod 32).toNat).toInt = _
  rw [hs, BitVec.toInt_sshiftRight]
  rfl
theorem pk_shrN {n : Nat} (h : n < 2 ^ 31) (s : Int32) (k : Nat) (hs : (s.toBitVec.smod 32).toNat = k) : nI n >>> s = nI (n / 2 ^ k) := by
  apply Int32.toInt_inj.mp
  have h2 : n / 2 ^ k ≤ n := Nat.div_le_self _ _
  rw [pk_shr _ _ k hs, nI_toInt h, nI_toInt (by omega), Int.shiftRight_eq_div_pow]
  rfl
theorem pk_loop {σ : Type} (W : Nat → Nat → σ → Prop) (I : Nat → σ → Prop) (e i0 : Nat) (s : σ) (hi : i0 ≤ e) (h0 : I i0 s) (hx : ∀ n s, I e s → W (n + 1) e s)
    (hs : ∀ n i s, i < e → I i s → (∀ s', I (i + 1) s' → W n (i + 1) s') → W (n + 1) i s) : ∃ n, W n i0 s :=
  ⟨e + 1, loop_i W I e hx hs (e + 1) i0 s hi (by omega) h0⟩
theorem sb_m1 {p : Nat} (h : 0 < p) : nI p + (-1) = nI (p - 1) := by
  obtain ⟨q, rfl⟩ : ∃ q, p = q + 1 := ⟨p - 1, by omega⟩
  exact pk_m1 q
/-! stores of runs: a piece moved up, a piece copied; a free number -/
def cs_mv (a : Nat → Int32) (d s n : Nat) : Nat → Int32 := fun j => if s ≤ j ∧ j < s + n then a (j + d) else a j
theorem cs_mv_in {a : Nat → Int32} {d s n j : Nat} (h1 : s ≤ j) (h2 : j < s + n) : cs_mv a d s n j = a (j + d) := if_pos ⟨h1, h2⟩
theorem cs_mv_out {a : Nat → Int32} {d s n j : Nat} (h : j < s ∨ s + n ≤ j) : cs_mv a d s n j = a j := if_neg (by omega)
theorem cs_mv_0 (a : Nat → Int32) (d s : Nat) : cs_mv a d s 0 = a := funext fun j => cs_mv_out (by omega)
theorem cs_mv_s (a : Nat → Int32) (d s i : Nat) : upd (cs_mv a d s i) (s + i) (a (s + i + d)) = cs_mv a d s (i + 1) := by
  funext j
  by_cases e : j = s + i
  · subst e
    rw [pk_us, cs_mv_in (by omega) (by omega)]
  · rw [pk_un e]
    by_cases h : s ≤ j ∧ j < s + i
    · rw [cs_mv_in h.1 h.2, cs_mv_in h.1 (by omega)]
    · rw [cs_mv_out (by omega), cs_mv_out (by omega)]
theorem cs_mv_1 (a : Nat → Int32) (s : Nat) : cs_mv a 1 s 1 = upd a s (a (s + 1)) := by
  have h := cs_mv_s a 1 s 0
  rw [cs_mv_0] at h
  exact h.symm
def cs_cp (a : Nat → Int32) (s : Nat) (g : Nat → Int32) (n : Nat) : Nat → Int32 := fun j => if s ≤ j ∧ j < s + n then g (j - s) else a j
theorem cs_cp_in {a g : Nat → Int32} {s n i : Nat} (h : i < n) : cs_cp a s g n (s + i) = g i := by
  show (if s ≤ s + i ∧ s + i < s + n then g (s + i - s) else a (s + i)) = g i
  rw [if_pos ⟨by omega, by omega⟩, Nat.add_sub_cancel_left]
theorem cs_cp_out {a g : Nat → Int32} {s n j : Nat} (h : j < s ∨ s + n ≤ j) : cs_cp a s g n j = a j := if_neg (by omega)
theorem cs_cp_0 (a : Nat → Int32) (s : Nat) (g : Nat → Int32) : cs_cp a s g 0 = a := funext fun j => cs_cp_out (by omega)
theorem cs_cp_s (a : Nat → Int32) (s : Nat) (g : Nat → Int32) (i : Nat) : upd (cs_cp a s g i) (s + i) (g i) = cs_cp a s g (i + 1) := by
  funext j
  by_cases e : j = s + i
  · subst e
    rw [pk_us, cs_cp_in (by omega)]
  · rw [pk_un e]
    by_cases h : s ≤ j ∧ j < s + i
    · obtain ⟨q, rfl⟩ : ∃ q, j = s + q := ⟨j - s, by omega⟩
      rw [cs_cp_in (by omega), cs_cp_in (by omega)]
    · rw [cs_cp_out (by omega), cs_cp_out (by omega)]
theorem cs_us {a : Nat → Int32} {i j : Nat} {x : Int32} (h : j = i) : upd a i x j = x := by
  subst h
  exact pk_us
theorem cs_uu (a : Nat → Int32) (i : Nat) (x y : Int32) : upd (upd a i x) i y = upd a i y := by
  funext j
  by_cases e : j = i
  · rw [cs_us e, cs_us e]
  · rw [pk_un e, pk_un e, pk_un e]
theorem cs_id (a : Nat → Int32) (i : Nat) (x : Int32) (h : a i = x) : upd a i x = a := by
  funext j
  by_cases e : j = i
  · rw [cs_us e, e, h]
  · rw [pk_un e]
theorem cs_pig : ∀ (n : Nat) (g : Nat → Nat), ∃ p, p ≤ n ∧ ∀ i, i < n → g i ≠ p := by
  intro n
  induction n with
  | zero => exact fun g => ⟨0, Nat.le_refl 0, fun i h => absurd h (Nat.not_lt_zero i)⟩
  | succ n ih =>
    intro g
    by_cases h : ∃ i, i < n + 1 ∧ g i = n + 1
    · obtain ⟨i0, hi0, e0⟩ := h
      obtain ⟨p, hp, hf⟩ := ih (fun i => if i = i0 then g n else g i)
      refine ⟨p, by omega, fun i hi e => ?_⟩
      by_cases h0 : i = i0
      · rw [h0] at e
        omega
      · by_cases hin : i = n
        · rw [hin] at e h0
          exact hf i0 (by omega) ((if_pos rfl).trans e)
        · exact hf i (by omega) ((if_neg h0).trans e)
    · exact ⟨n + 1, Nat.le_refl _, fun i hi e => h ⟨i, hi, e⟩⟩
theorem cs_nI_inj {a b : Nat} (ha : a < 2 ^ 31) (hb : b < 2 ^ 31) (h : nI a = nI b) : a = b := (nI_eq ha hb).mp h
theorem cs_nz {n : Nat} (h : nI n = 0) (hn : n < 2 ^ 31) : n = 0 := cs_nI_inj hn (by decide) h
theorem cs_b0 : vp_nar .boolean 0 = 0 := by decide
theorem cs_b1 : vp_nar .boolean 1 = 1 := by decide
theorem cs_10 : ¬ (1 : Int32) = 0 := by decide
theorem cs_bn {l : Nat} (h : l ≤ 1) : vp_nar .boolean (nI l) = nI l := by
  rcases (show l = 0 ∨ l = 1 by omega) with e | e
  · subst e; exact cs_b0
  · subst e; exact cs_b1
/-! the frame f of X is the place p of Y: circuit c, z bytes -/
def cs_FP (bf : Nat) (FC FZ FB NU CI LE BY : Nat → Int32) (f p c z : Nat) : Prop :=
  p < 64 ∧ f < bf ∧ c < 8 ∧ 1 ≤ z ∧ z ≤ 27 ∧ NU p = nI (f + 1) ∧ FC f = nI c ∧ CI p = nI c ∧ FZ f = nI z ∧ LE p = nI z ∧ ∀ i, i < z → BY (27 * p + i) = FB (27 * f + i)
/-! what waits in the circuit c -/
def cs_W1 (FP : Nat → Nat → Nat → Nat → Prop) (WF WT HD SP NX NY : Nat → Int32) (c f p z m : Nat) : Prop :=
  WF (2 * c) = nI f ∧ WT (2 * c) = nI p ∧ FP f p c z ∧ NX c = nI m ∧ NY c = nI m ∧ m < (z + 12) / 8 ∧ (HD c = 0 ↔ SP p = 0)
def cs_W2 (FP : Nat → Nat → Nat → Nat → Prop) (WF WT SP : Nat → Int32) (c f f' p' z' : Nat) : Prop :=
  WF (2 * c + 1) = nI f' ∧ WT (2 * c + 1) = nI p' ∧ FP f' p' c z' ∧ SP p' = 0 ∧ f' ≠ f
def cs_Wc (FP : Nat → Nat → Nat → Nat → Prop) (op W WF WT HD SP NX NY : Nat → Int32) (c : Nat) : Prop :=
  (W c = nI 0 ∧ HD c = 0 ∧ NX c = 0 ∧ (op c ≠ 0 → NY c = 0)) ∨
  (op c ≠ 0 ∧ W c = nI 1 ∧ ∃ f p z m, cs_W1 FP WF WT HD SP NX NY c f p z m) ∨
  (op c ≠ 0 ∧ W c = nI 2 ∧ ∃ f p z m f' p' z', cs_W1 FP WF WT HD SP NX NY c f p z m ∧ cs_W2 FP WF WT SP c f f' p' z')
def cs_W (FP : Nat → Nat → Nat → Nat → Prop) (op W WF WT HD SP NX NY : Nat → Int32) : Prop := ∀ c, c < 8 → cs_Wc FP op W WF WT HD SP NX NY c
/-! what a station keeps of the circuit c -/
def cs_K (op KX KY KF KO KS KM KT : Nat → Int32) : Prop := ∀ c, c < 8 →
  (op c = 0 → KX c = 0 ∧ KS c = 0) ∧ (op c ≠ 0 → KX c = KY c ∧ (KX c ≠ 0 → KO c = KF c + 1) ∧ (KS c = 0 ↔ (KM c = 0 ∧ KT c = 0)))
/-! the queues -/
def cs_Qs (FP : Nat → Nat → Nat → Nat → Prop) (op TO QX QF QL QT : Nat → Int32) (s j : Nat) : Prop :=
  ∃ f p c z l t, QX j = nI (4 * f + 2 * l + t) ∧ QF j = nI p ∧ QL j = nI l ∧ QT j = nI t ∧ l ≤ 1 ∧ t ≤ 1 ∧ FP f p c z ∧ op c ≠ 0 ∧ TO c = nI s
def cs_Q (FP : Nat → Nat → Nat → Nat → Prop) (op TO QC QX QF QL QT : Nat → Int32) : Prop := ∀ s, s < 4 →
  ∃ n, n ≤ 6 ∧ QC s = nI n ∧ ∀ i, i < n → cs_Qs FP op TO QX QF QL QT s (6 * s + i)
/-! the inboxes -/
def cs_Is (bf : Nat) (FC FZ FB IF BH BB : Nat → Int32) (j : Nat) : Prop :=
  ∃ f c z, IF j = nI f ∧ f < bf ∧ c < 8 ∧ 1 ≤ z ∧ z ≤ 27 ∧ FC f = nI c ∧ FZ f = nI z ∧ BH j = nI (32 * c + z) ∧ ∀ i, i < z → BB (27 * j + i) = FB (27 * f + i)
def cs_I (bf : Nat) (FC FZ FB BX IF BH BB : Nat → Int32) : Prop := ∀ s, s < 4 →
  ∃ n, n ≤ 4 ∧ BX s = nI n ∧ ∀ i, i < n → cs_Is bf FC FZ FB IF BH BB (4 * s + i)
/-! bits turned ahead, last senders, ends -/
def cs_T (TA HA CA : Nat → Int32) : Prop := ∀ s, s < 4 → ∃ t, t ≤ 3 ∧ TA s = nI t ∧ HA s = nI (if t = 3 then 0 else t) ∧ CA s = nI (if t = 3 then 1 else 0)
def cs_L (n : Nat) (a : Nat → Int32) (N : Nat) : Prop := ∀ s, s < n → ∃ l, l < N ∧ a s = nI l
/-! the bound on posts -/
def cs_N (k bf bs : Nat) (op : Nat → Int32) : Prop :=
  5 * (2 * bf + min bs 1) ≤ k ∧ ((0 < bf ∨ ∃ c, c < 8 ∧ op c ≠ 0) → 5 * (2 * bf + min bs 1 + 1) ≤ k)
