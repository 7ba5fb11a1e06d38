section
theorem pk_us {f : Nat → Int32} {k : Nat} {x : Int32} : upd f k x k = x := if_pos rfl
theorem pk_un {f : Nat → Int32} {k j : Nat} {x : Int32} (h : j ≠ k) : upd f k x j = f j := if_neg h
theorem pk_sub {a b : Nat} (h : b ≤ a) : nI a - nI b = nI (a - b) := by
  obtain ⟨c, rfl⟩ : ∃ c, a = c + b := ⟨a - b, by omega⟩
  rw [← nI_add, Int32.add_sub_cancel, Nat.add_sub_cancel]
theorem pk_m1 (n : Nat) : nI (n + 1) + (-1) = nI n := by
  rw [← nI_1, Int32.add_assoc, show (1 : Int32) + (-1) = 0 from rfl, Int32.add_zero]
theorem pk_mul (a b : Nat) : nI a * nI b = nI (a * b) := (Int32.ofNat_mul a b).symm
theorem pk_div {a d : Nat} (ha : a < 2 ^ 31) (h0 : 0 < d) (hd : d < 2 ^ 31) : nI a / nI d = nI (a / d) := by
  apply Int32.toInt_inj.mp
  rw [lg_idiv_nonneg (by rw [nI_toInt ha]; omega) (by rw [nI_toInt hd]; omega), nI_toInt ha, nI_toInt hd, nI_toInt (Nat.lt_of_le_of_lt (Nat.div_le_self a d) ha)]
  first | rfl | exact (Int.natCast_ediv _ _).symm
theorem pk_rem {a d : Nat} (ha : a < 2 ^ 31) (h0 : 0 < d) (hd : d < 2 ^ 31) : nI a - nI a / nI d * nI d = nI (a % d) := by
  rw [pk_div ha h0 hd, pk_mul, pk_sub (Nat.div_mul_le_self a d)]
  exact congrArg nI (by have := Nat.div_add_mod' a d; omega)
theorem pk_ix (x : Int32) {n : Nat} (hn : n < 2 ^ 31) : x < 0 ∨ nI n ≤ x ∨ ∃ j : Nat, j < n ∧ x = nI j := by
  by_cases h : x < 0
  · exact Or.inl h
  · obtain ⟨j, hj, rfl⟩ := nI_of h
    by_cases h2 : j < n
    · exact Or.inr (Or.inr ⟨j, h2, rfl⟩)
    · exact Or.inr (Or.inl (nI_le (by omega) hj))
theorem pk_le {x y : Int32} {A B : Prop} (a b : Nat) (f : a ≤ b → A) (g : b < a → B) (hx : x = nI a := by rfl) (hy : y = nI b := by rfl) (ha : a < 2 ^ 31 := by omega) (hb : b < 2 ^ 31 := by omega) : (x ≤ y → A) ∧ (¬ x ≤ y → B) := by
  subst hx hy
  rw [nI_leI ha hb]
  exact ⟨f, fun z => g (by omega)⟩
theorem pk_lt {x y : Int32} {A B : Prop} (a b : Nat) (f : a < b → A) (g : b ≤ a → B) (hx : x = nI a := by rfl) (hy : y = nI b := by rfl) (ha : a < 2 ^ 31 := by omega) (hb : b < 2 ^ 31 := by omega) : (x < y → A) ∧ (¬ x < y → B) := by
  subst hx hy
  rw [nI_ltI ha hb]
  exact ⟨f, fun z => g (by omega)⟩
theorem pk_eq {x y : Int32} {A B : Prop} (a b : Nat) (f : a = b → A) (g : a ≠ b → B) (hx : x = nI a := by rfl) (hy : y = nI b := by rfl) (ha : a < 2 ^ 31 := by omega) (hb : b < 2 ^ 31 := by omega) : (x = y → A) ∧ (¬ x = y → B) := by
  subst hx hy
  rw [nI_eq ha hb]
  exact ⟨f, g⟩
theorem pk_in {x : Int32} (n N : Nat) (h : n < N) (hx : x = nI n := by rfl) (hN : N < 2 ^ 31 := by omega) : vp_in x N := by
  subst hx
  exact vp_in_nI h hN
theorem pk_cl {x : Int32} (n : Nat) (hx : x = nI n := by rfl) (h : n < 2 ^ 31 := by omega) : x.toNatClampNeg = n := by
  subst hx
  exact nI_clamp h
theorem pk_tn {n : Nat} (h : n < 2 ^ 32) : (nI n).toBitVec.toNat = n := Nat.mod_eq_of_lt h
theorem pk_and (x : Int32) {m : Int32} (k : Nat) (hm : m.toBitVec.toNat = 2 ^ k - 1) : x &&& m = nI (x.toBitVec.toNat % 2 ^ k) := by
  apply Int32.toBitVec_inj.mp
  apply BitVec.eq_of_toNat_eq
  rw [Int32.toBitVec_and, BitVec.toNat_and, hm, Nat.and_two_pow_sub_one_eq_mod]
  show _ = (BitVec.ofNat 32 _).toNat
  rw [BitVec.toNat_ofNat]
  exact (Nat.mod_eq_of_lt (Nat.lt_of_le_of_lt (Nat.mod_le _ _) x.toBitVec.isLt)).symm
theorem pk_andN {n : Nat} (h : n < 2 ^ 32) {m : Int32} (k : Nat) (hm : m.toBitVec.toNat = 2 ^ k - 1) : nI n &&& m = nI (n % 2 ^ k) := by
  rw [pk_and _ k hm, pk_tn h]
theorem pk_shl (a s : Int32) (k : Nat) (hs : (s.toBitVec.smod 32).toNat = k) : (a <<< s).toBitVec.toNat = a.toBitVec.toNat * 2 ^ k % 2 ^ 32 := by
  show (a.toBitVec <<< (s.toBitVec.smod 32).toNat).toNat = _
  rw [hs, BitVec.toNat_shiftLeft, Nat.shiftLeft_eq]
theorem pk_shlN {n : Nat} (s : Int32) (k : Nat) (hs : (s.toBitVec.smod 32).toNat = k) (h : n * 2 ^ k < 2 ^ 32) : nI n <<< s = nI (n * 2 ^ k) := by
  apply Int32.toBitVec_inj.mp
  apply BitVec.eq_of_toNat_eq
  have hn : n < 2 ^ 32 := Nat.lt_of_le_of_lt (Nat.le_mul_of_pos_right n (Nat.two_pow_pos k)) h
  rw [pk_shl _ _ k hs, pk_tn hn, pk_tn h, Nat.mod_eq_of_lt h]
theorem pk_shr (a s : Int32) (k : Nat) (hs : (s.toBitVec.smod 32).toNat = k) : (a >>> s).toInt = a.toInt >>> k := by
  show (a.toBitVec.sshiftRight (s.toBitVec.smod 32).toNat).toInt = _
  rw [hs, BitVec.toInt_sshiftRight]
  rfl
theorem pk_shrN {n : Nat} (h : n < 2 ^ 31) (s : Int32) (k : Nat) (hs : (s.toBitVec.smod 32).toNat = k) : nI n >>> s = nI (n / 2 ^ k) := by
  apply Int32.toInt_inj.mp
  have h2 : n / 2 ^ k ≤ n := Nat.div_le_self _ _
  rw [pk_shr _ _ k hs, nI_toInt h, nI_toInt (by omega), Int.shiftRight_eq_div_pow]
  rfl
theorem pk_loop {σ : Type} (W : Nat → Nat → σ → Prop) (I : Nat → σ → Prop) (e i0 : Nat) (s : σ) (hi : i0 ≤ e) (h0 : I i0 s) (hx : ∀ n s, I e s → W (n + 1) e s)
    (hs : ∀ n i s, i < e → I i s → (∀ s', I (i + 1) s' → W n (i + 1) s') → W (n + 1) i s) : ∃ n, W n i0 s :=
  ⟨e + 1, loop_i W I e hx hs (e + 1) i0 s hi (by omega) h0⟩
theorem sb_m1 {p : Nat} (h : 0 < p) : nI p + (-1) = nI (p - 1) := by
  obtain ⟨q, rfl⟩ : ∃ q, p = q + 1 := ⟨p - 1, by omega⟩
  exact pk_m1 q
/-! stores of runs: a piece moved up, a piece copied; a free number -/
def cs_mv (a : Nat → Int32) (d s n : Nat) : Nat → Int32 := fun j => if s ≤ j ∧ j < s + n then a (j + d) else a j
theorem cs_mv_in {a : Nat → Int32} {d s n j : Nat} (h1 : s ≤ j) (h2 : j < s + n) : cs_mv a d s n j = a (j + d) := if_pos ⟨h1, h2⟩
theorem cs_mv_out {a : Nat → Int32} {d s n j : Nat} (h : j < s ∨ s + n ≤ j) : cs_mv a d s n j = a j := if_neg (by omega)
theorem cs_mv_0 (a : Nat → Int32) (d s : Nat) : cs_mv a d s 0 = a := funext fun j => cs_mv_out (by omega)
theorem cs_mv_s (a : Nat → Int32) (d s i : Nat) : upd (cs_mv a d s i) (s + i) (a (s + i + d)) = cs_mv a d s (i + 1) := by
  funext j
  by_cases e : j = s + i
  · subst e
    rw [pk_us, cs_mv_in (by omega) (by omega)]
  · rw [pk_un e]
    by_cases h : s ≤ j ∧ j < s + i
    · rw [cs_mv_in h.1 h.2, cs_mv_in h.1 (by omega)]
    · rw [cs_mv_out (by omega), cs_mv_out (by omega)]
theorem cs_mv_1 (a : Nat → Int32) (s : Nat) : cs_mv a 1 s 1 = upd a s (a (s + 1)) := by
  have h := cs_mv_s a 1 s 0
  rw [cs_mv_0] at h
  exact h.symm
def cs_cp (a : Nat → Int32) (s : Nat) (g : Nat → Int32) (n : Nat) : Nat → Int32 := fun j => if s ≤ j ∧ j < s + n then g (j - s) else a j
theorem cs_cp_in {a g : Nat → Int32} {s n i : Nat} (h : i < n) : cs_cp a s g n (s + i) = g i := by
  show (if s ≤ s + i ∧ s + i < s + n then g (s + i - s) else a (s + i)) = g i
  rw [if_pos ⟨by omega, by omega⟩, Nat.add_sub_cancel_left]
theorem cs_cp_out {a g : Nat → Int32} {s n j : Nat} (h : j < s ∨ s + n ≤ j) : cs_cp a s g n j = a j := if_neg (by omega)
theorem cs_cp_0 (a : Nat → Int32) (s : Nat) (g : Nat → Int32) : cs_cp a s g 0 = a := funext fun j => cs_cp_out (by omega)
theorem cs_cp_s (a : Nat → Int32) (s : Nat) (g : Nat → Int32) (i : Nat) : upd (cs_cp a s g i) (s + i) (g i) = cs_cp a s g (i + 1) := by
  funext j
  by_cases e : j = s + i
  · subst e
    rw [pk_us, cs_cp_in (by omega)]
  · rw [pk_un e]
    by_cases h : s ≤ j ∧ j < s + i
    · obtain ⟨q, rfl⟩ : ∃ q, j = s + q := ⟨j - s, by omega⟩
      rw [cs_cp_in (by omega), cs_cp_in (by omega)]
    · rw [cs_cp_out (by omega), cs_cp_out (by omega)]
theorem cs_us {a : Nat → Int32} {i j : Nat} {x : Int32} (h : j = i) : upd a i x j = x := by
  subst h
  exact pk_us
theorem cs_uu (a : Nat → Int32) (i : Nat) (x y : Int32) : upd (upd a i x) i y = upd a i y := by
  funext j
  by_cases e : j = i
  · rw [cs_us e, cs_us e]
  · rw [pk_un e, pk_un e, pk_un e]
theorem cs_id (a : Nat → Int32) (i : Nat) (x : Int32) (h : a i = x) : upd a i x = a := by
  funext j
  by_cases e : j = i
  · rw [cs_us e, e, h]
  · rw [pk_un e]
theorem cs_pig : ∀ (n : Nat) (g : Nat → Nat), ∃ p, p ≤ n ∧ ∀ i, i < n → g i ≠ p := by
  intro n
  induction n with
  | zero => exact fun g => ⟨0, Nat.le_refl 0, fun i h => absurd h (Nat.not_lt_zero i)⟩
  | succ n ih =>
    intro g
    by_cases h : ∃ i, i < n + 1 ∧ g i = n + 1
    · obtain ⟨i0, hi0, e0⟩ := h
      obtain ⟨p, hp, hf⟩ := ih (fun i => if i = i0 then g n else g i)
      refine ⟨p, by omega, fun i hi e => ?_⟩
      by_cases h0 : i = i0
      · rw [h0] at e
        omega
      · by_cases hin : i = n
        · rw [hin] at e h0
          exact hf i0 (by omega) ((if_pos rfl).trans e)
        · exact hf i (by omega) ((if_neg h0).trans e)
    · exact ⟨n + 1, Nat.le_refl _, fun i hi e => h ⟨i, hi, e⟩⟩
theorem cs_nI_inj {a b : Nat} (ha : a < 2 ^ 31) (hb : b < 2 ^ 31) (h : nI a = nI b) : a = b := (nI_eq ha hb).mp h
theorem cs_nz {n : Nat} (h : nI n = 0) (hn : n < 2 ^ 31) : n = 0 := cs_nI_inj hn (by decide) h
theorem cs_b0 : vp_nar .boolean 0 = 0 := by decide
theorem cs_b1 : vp_nar .boolean 1 = 1 := by decide
theorem cs_10 : ¬ (1 : Int32) = 0 := by decide
theorem cs_bn {l : Nat} (h : l ≤ 1) : vp_nar .boolean (nI l) = nI l := by
  rcases (show l = 0 ∨ l = 1 by omega) with e | e
  · subst e; exact cs_b0
  · subst e; exact cs_b1
/-! the frame f of X is the place p of Y: circuit c, z bytes -/
def cs_FP (bf : Nat) (FC FZ FB NU CI LE BY : Nat → Int32) (f p c z : Nat) : Prop :=
  p < 64 ∧ f < bf ∧ c < 8 ∧ 1 ≤ z ∧ z ≤ 27 ∧ NU p = nI (f + 1) ∧ FC f = nI c ∧ CI p = nI c ∧ FZ f = nI z ∧ LE p = nI z ∧ ∀ i, i < z → BY (27 * p + i) = FB (27 * f + i)
/-! what waits in the circuit c -/
def cs_W1 (FP : Nat → Nat → Nat → Nat → Prop) (WF WT HD SP NX NY : Nat → Int32) (c f p z m : Nat) : Prop :=
  WF (2 * c) = nI f ∧ WT (2 * c) = nI p ∧ FP f p c z ∧ NX c = nI m ∧ NY c = nI m ∧ m < (z + 12) / 8 ∧ (HD c = 0 ↔ SP p = 0)
def cs_W2 (FP : Nat → Nat → Nat → Nat → Prop) (WF WT SP : Nat → Int32) (c f f' p' z' : Nat) : Prop :=
  WF (2 * c + 1) = nI f' ∧ WT (2 * c + 1) = nI p' ∧ FP f' p' c z' ∧ SP p' = 0 ∧ f' ≠ f
def cs_Wc (FP : Nat → Nat → Nat → Nat → Prop) (op W WF WT HD SP NX NY : Nat → Int32) (c : Nat) : Prop :=
  (W c = nI 0 ∧ HD c = 0 ∧ NX c = 0 ∧ (op c ≠ 0 → NY c = 0)) ∨
  (op c ≠ 0 ∧ W c = nI 1 ∧ ∃ f p z m, cs_W1 FP WF WT HD SP NX NY c f p z m) ∨
  (op c ≠ 0 ∧ W c = nI 2 ∧ ∃ f p z m f' p' z', cs_W1 FP WF WT HD SP NX NY c f p z m ∧ cs_W2 FP WF WT SP c f f' p' z')
def cs_W (FP : Nat → Nat → Nat → Nat → Prop) (op W WF WT HD SP NX NY : Nat → Int32) : Prop := ∀ c, c < 8 → cs_Wc FP op W WF WT HD SP NX NY c
/-! what a station keeps of the circuit c -/
def cs_K (op KX KY KF KO KS KM KT : Nat → Int32) : Prop := ∀ c, c < 8 →
  (op c = 0 → KX c = 0 ∧ KS c = 0) ∧ (op c ≠ 0 → KX c = KY c ∧ (KX c ≠ 0 → KO c = KF c + 1) ∧ (KS c = 0 ↔ (KM c = 0 ∧ KT c = 0)))
/-! the queues -/
def cs_Qs (FP : Nat → Nat → Nat → Nat → Prop) (op TO QX QF QL QT : Nat → Int32) (s j : Nat) : Prop :=
  ∃ f p c z l t, QX j = nI (4 * f + 2 * l + t) ∧ QF j = nI p ∧ QL j = nI l ∧ QT j = nI t ∧ l ≤ 1 ∧ t ≤ 1 ∧ FP f p c z ∧ op c ≠ 0 ∧ TO c = nI s
def cs_Q (FP : Nat → Nat → Nat → Nat → Prop) (op TO QC QX QF QL QT : Nat → Int32) : Prop := ∀ s, s < 4 →
  ∃ n, n ≤ 6 ∧ QC s = nI n ∧ ∀ i, i < n → cs_Qs FP op TO QX QF QL QT s (6 * s + i)
/-! the inboxes -/
def cs_Is (bf : Nat) (FC FZ FB IF BH BB : Nat → Int32) (j : Nat) : Prop :=
  ∃ f c z, IF j = nI f ∧ f < bf ∧ c < 8 ∧ 1 ≤ z ∧ z ≤ 27 ∧ FC f = nI c ∧ FZ f = nI z ∧ BH j = nI (32 * c + z) ∧ ∀ i, i < z → BB (27 * j + i) = FB (27 * f + i)
def cs_I (bf : Nat) (FC FZ FB BX IF BH BB : Nat → Int32) : Prop := ∀ s, s < 4 →
  ∃ n, n ≤ 4 ∧ BX s = nI n ∧ ∀ i, i < n → cs_Is bf FC FZ FB IF BH BB (4 * s + i)
/-! bits turned ahead, last senders, ends -/
def cs_T (TA HA CA : Nat → Int32) : Prop := ∀ s, s < 4 → ∃ t, t ≤ 3 ∧ TA s = nI t ∧ HA s = nI (if t = 3 then 0 else t) ∧ CA s = nI (if t = 3 then 1 else 0)
def cs_L (n : Nat) (a : Nat → Int32) (N : Nat) : Prop := ∀ s, s < n → ∃ l, l < N ∧ a s = nI l
/-! the bound on posts -/
def cs_N (k bf bs : Nat) (op : Nat → Int32) : Prop :=
  5 * (2 * bf + min bs 1) ≤ k ∧ ((0 < bf ∨ ∃ c, c < 8 ∧ op c ≠ 0) → 5 * (2 * bf + min bs 1 + 1) ≤ k)
end
section
/-! waiting: a cell is sent -/
theorem cs_W_get {FP : Nat → Nat → Nat → Nat → Prop} {op W WF WT HD SP NX NY : Nat → Int32} (h : cs_W FP op W WF WT HD SP NX NY) {c : Nat} (hc : c < 8) (hp : W c ≠ 0) :
    op c ≠ 0 ∧ ∃ w f p z m, w < 2 ∧ W c = nI (w + 1) ∧ cs_W1 FP WF WT HD SP NX NY c f p z m ∧ (w = 1 → ∃ f' p' z', cs_W2 FP WF WT SP c f f' p' z') := by
  rcases h c hc with a | a | a
  · exact absurd a.1 hp
  · obtain ⟨ho, hw, f, p, z, m, b⟩ := a
    exact ⟨ho, 0, f, p, z, m, by omega, hw, b, fun e => absurd e (by omega)⟩
  · obtain ⟨ho, hw, f, p, z, m, f', p', z', b, b'⟩ := a
    exact ⟨ho, 1, f, p, z, m, by omega, hw, b, fun _ => ⟨f', p', z', b'⟩⟩
theorem cs_W_val {FP : Nat → Nat → Nat → Nat → Prop} {op W WF WT HD SP NX NY : Nat → Int32} (h : cs_W FP op W WF WT HD SP NX NY) {c : Nat} (hc : c < 8) :
    ∃ w, w ≤ 2 ∧ W c = nI w := by
  rcases h c hc with a | a | a
  · exact ⟨0, by omega, a.1⟩
  · exact ⟨1, by omega, a.2.1⟩
  · exact ⟨2, by omega, a.2.1⟩
theorem cs_Wc_ext {FP : Nat → Nat → Nat → Nat → Prop} {op op' W WF WT HD SP NX NY W' WF' WT' HD' SP' NX' NY' : Nat → Int32} {c : Nat} (h : cs_Wc FP op W WF WT HD SP NX NY c)
    (h0 : W' c = W c) (h1 : WF' (2 * c) = WF (2 * c)) (h2 : WF' (2 * c + 1) = WF (2 * c + 1)) (h3 : WT' (2 * c) = WT (2 * c)) (h4 : WT' (2 * c + 1) = WT (2 * c + 1))
    (h5 : HD' c = HD c) (h6 : NX' c = NX c) (h7 : NY' c = NY c) (h8 : ∀ f p z, FP f p c z → SP' p = SP p) (h9 : op' c = op c := by rfl) : cs_Wc FP op' W' WF' WT' HD' SP' NX' NY' c := by
  unfold cs_Wc cs_W1 cs_W2 at *
  rw [h0, h1, h2, h3, h4, h5, h6, h7, h9]
  rcases h with a | ⟨ho, hw, f, p, z, m, b1, b2, b3, b4, b5, b6, b7⟩ | ⟨ho, hw, f, p, z, m, f', p', z', ⟨b1, b2, b3, b4, b5, b6, b7⟩, d1, d2, d3, d4, d5⟩
  · exact Or.inl a
  · exact Or.inr (Or.inl ⟨ho, hw, f, p, z, m, b1, b2, b3, b4, b5, b6, by rw [h8 f p z b3]; exact b7⟩)
  · exact Or.inr (Or.inr ⟨ho, hw, f, p, z, m, f', p', z', ⟨b1, b2, b3, b4, b5, b6, by rw [h8 f p z b3]; exact b7⟩, d1, d2, d3, by rw [h8 f' p' z' d3]; exact d4, d5⟩)
theorem cs_FP_ne {bf : Nat} {FC FZ FB NU CI LE BY : Nat → Int32} {f p c z f' p' c' z' : Nat} (h : cs_FP bf FC FZ FB NU CI LE BY f p c z) (h' : cs_FP bf FC FZ FB NU CI LE BY f' p' c' z')
    (hb : bf ≤ 256) (hn : c ≠ c' ∨ f ≠ f') : p ≠ p' := by
  intro e
  subst e
  obtain ⟨_, a2, a3, _, _, a6, _, a8, _⟩ := h
  obtain ⟨_, b2, b3, _, _, b6, _, b8, _⟩ := h'
  have e1 := cs_nI_inj (by omega) (by omega) (a6.symm.trans b6)
  have e2 := cs_nI_inj (by omega) (by omega) (a8.symm.trans b8)
  omega
/-! the two ways in which the marks of a broken frame go on -/
def cs_D (HD HD' SP SP' : Nat → Int32) (c p : Nat) : Prop := (HD' = HD ∧ SP' = SP) ∨ (HD' = upd HD c 1 ∧ SP' = upd SP p 1)
theorem cs_D_X {HD HD' SP SP' : Nat → Int32} {c p j : Nat} (h : cs_D HD HD' SP SP' c p) (e : j ≠ c) : HD' j = HD j := by
  rcases h with ⟨rfl, rfl⟩ | ⟨rfl, rfl⟩
  · rfl
  · rw [pk_un e]
theorem cs_D_Y {HD HD' SP SP' : Nat → Int32} {c p j : Nat} (h : cs_D HD HD' SP SP' c p) (e : j ≠ p) : SP' j = SP j := by
  rcases h with ⟨rfl, rfl⟩ | ⟨rfl, rfl⟩
  · rfl
  · rw [pk_un e]
theorem cs_D_c {HD HD' SP SP' : Nat → Int32} {c p : Nat} (h : cs_D HD HD' SP SP' c p) (e : HD c = 0 ↔ SP p = 0) : HD' c = 0 ↔ SP' p = 0 := by
  rcases h with ⟨rfl, rfl⟩ | ⟨rfl, rfl⟩
  · exact e
  · rw [pk_us, pk_us]
theorem cs_send1 {bf : Nat} {FC FZ FB NU CI LE BY op W WF WT HD SP NX NY HD' SP' : Nat → Int32} {w c f p z m : Nat} (hb : bf ≤ 256)
    (h : cs_W (cs_FP bf FC FZ FB NU CI LE BY) op W WF WT HD SP NX NY) (hc : c < 8) (ho : op c ≠ 0) (hw : w < 2) (hW : W c = nI (w + 1))
    (h1 : cs_W1 (cs_FP bf FC FZ FB NU CI LE BY) WF WT HD SP NX NY c f p z m) (h2 : w = 1 → ∃ f' p' z', cs_W2 (cs_FP bf FC FZ FB NU CI LE BY) WF WT SP c f f' p' z')
    (hD : cs_D HD HD' SP SP' c p) (hm : m + 1 < (z + 12) / 8) :
    cs_W (cs_FP bf FC FZ FB NU CI LE BY) op W WF WT HD' SP' (upd NX c (nI (m + 1))) (upd NY c (nI (m + 1))) := by
  obtain ⟨b1, b2, b3, b4, b5, b6, b7⟩ := h1
  intro c' hc'
  by_cases e : c' = c
  · subst e
    have g : cs_W1 (cs_FP bf FC FZ FB NU CI LE BY) WF WT HD' SP' (upd NX c' (nI (m + 1))) (upd NY c' (nI (m + 1))) c' f p z (m + 1) :=
      ⟨b1, b2, b3, pk_us, pk_us, hm, cs_D_c hD b7⟩
    rcases (show w = 0 ∨ w = 1 by omega) with q | q
    · subst q
      exact Or.inr (Or.inl ⟨ho, hW, f, p, z, m + 1, g⟩)
    · obtain ⟨f', p', z', d1, d2, d3, d4, d5⟩ := h2 q
      subst q
      refine Or.inr (Or.inr ⟨ho, hW, f, p, z, m + 1, f', p', z', g, d1, d2, d3, ?_, d5⟩)
      rw [cs_D_Y hD (cs_FP_ne d3 b3 hb (Or.inr d5))]
      exact d4
  · exact cs_Wc_ext (h c' hc') rfl rfl rfl rfl rfl (cs_D_X hD e) (pk_un e) (pk_un e) (fun f' p' z' q => cs_D_Y hD (cs_FP_ne q b3 hb (Or.inl e)))
theorem cs_send2 {bf : Nat} {FC FZ FB NU CI LE BY op W WF WT HD SP NX NY HD' SP' : Nat → Int32} {x y : Int32} {w c f p z m : Nat} (hb : bf ≤ 256)
    (h : cs_W (cs_FP bf FC FZ FB NU CI LE BY) op W WF WT HD SP NX NY) (hc : c < 8) (ho : op c ≠ 0) (hw : w < 2)
    (h1 : cs_W1 (cs_FP bf FC FZ FB NU CI LE BY) WF WT HD SP NX NY c f p z m) (h2 : w = 1 → ∃ f' p' z', cs_W2 (cs_FP bf FC FZ FB NU CI LE BY) WF WT SP c f f' p' z')
    (hD : cs_D HD HD' SP SP' c p) :
    cs_W (cs_FP bf FC FZ FB NU CI LE BY) op (upd W c (nI w)) (cs_mv WF 1 (2 * c) w) (upd WT (2 * c) (WT (2 * c + 1))) (upd HD' c 0) SP' (upd (upd NX c x) c 0) (upd (upd NY c y) c 0) := by
  obtain ⟨b1, b2, b3, b4, b5, b6, b7⟩ := h1
  intro c' hc'
  by_cases e : c' = c
  · subst e
    rcases (show w = 0 ∨ w = 1 by omega) with q | q
    · subst q
      exact Or.inl ⟨pk_us, pk_us, pk_us, fun _ => pk_us⟩
    · obtain ⟨f', p', z', d1, d2, d3, d4, d5⟩ := h2 q
      subst q
      refine Or.inr (Or.inl ⟨ho, pk_us, f', p', z', 0, ?_, ?_, d3, pk_us, pk_us, ?_, ?_⟩)
      · rw [cs_mv_in (by omega) (by omega)]
        exact d1
      · rw [pk_us]
        exact d2
      · have := d3.2.2.2.1
        omega
      · rw [pk_us, cs_D_Y hD (cs_FP_ne d3 b3 hb (Or.inr d5)), d4]
  · refine cs_Wc_ext (h c' hc') (pk_un e) (cs_mv_out (by omega)) (cs_mv_out (by omega)) (pk_un (by omega)) (pk_un (by omega)) ?_ ?_ ?_ (fun f' p' z' q => cs_D_Y hD (cs_FP_ne q b3 hb (Or.inl e)))
    · rw [pk_un e]
      exact cs_D_X hD e
    · rw [pk_un e, pk_un e]
    · rw [pk_un e, pk_un e]
/-! queues: a cell enters, a cell leaves -/
theorem cs_Q_in {FP : Nat → Nat → Nat → Nat → Prop} {op TO QC QX QF QL QT : Nat → Int32} {s n f p c z l t : Nat} (h : cs_Q FP op TO QC QX QF QL QT) (hs : s < 4) (hn : n < 6)
    (hq : QC s = nI n) (hl : l ≤ 1) (ht : t ≤ 1) (hf : FP f p c z) (ho : op c ≠ 0) (hto : TO c = nI s) :
    cs_Q FP op TO (upd QC s (nI (n + 1))) (upd QX (6 * s + n) (nI (4 * f + 2 * l + t))) (upd QF (6 * s + n) (nI p)) (upd QL (6 * s + n) (nI l)) (upd QT (6 * s + n) (nI t)) := by
  intro s' hs'
  obtain ⟨n', hn', e', g⟩ := h s' hs'
  by_cases e : s' = s
  · subst e
    have en : n' = n := cs_nI_inj (by omega) (by omega) (e'.symm.trans hq)
    subst en
    refine ⟨n' + 1, by omega, pk_us, fun i hi => ?_⟩
    by_cases ei : i = n'
    · subst ei
      exact ⟨f, p, c, z, l, t, pk_us, pk_us, pk_us, pk_us, hl, ht, hf, ho, hto⟩
    · unfold cs_Qs
      rw [pk_un (by omega), pk_un (by omega), pk_un (by omega), pk_un (by omega)]
      exact g i (by omega)
  · refine ⟨n', hn', by rw [pk_un e]; exact e', fun i hi => ?_⟩
    unfold cs_Qs
    rw [pk_un (by omega), pk_un (by omega), pk_un (by omega), pk_un (by omega)]
    exact g i hi
theorem cs_Q_out {FP : Nat → Nat → Nat → Nat → Prop} {op TO QC QX QF QL QT : Nat → Int32} {s n : Nat} (h : cs_Q FP op TO QC QX QF QL QT) (hs : s < 4) (hn : n < 6)
    (hq : QC s = nI (n + 1)) :
    cs_Q FP op TO (upd QC s (nI n)) (cs_mv QX 1 (6 * s) n) (cs_mv QF 1 (6 * s) n) (cs_mv QL 1 (6 * s) n) (cs_mv QT 1 (6 * s) n) := by
  intro s' hs'
  obtain ⟨n', hn', e', g⟩ := h s' hs'
  by_cases e : s' = s
  · subst e
    have en : n' = n + 1 := cs_nI_inj (by omega) (by omega) (e'.symm.trans hq)
    subst en
    refine ⟨n, by omega, pk_us, fun i hi => ?_⟩
    unfold cs_Qs
    rw [cs_mv_in (by omega) (by omega), cs_mv_in (by omega) (by omega), cs_mv_in (by omega) (by omega), cs_mv_in (by omega) (by omega)]
    exact g (i + 1) (by omega)
  · refine ⟨n', hn', by rw [pk_un e]; exact e', fun i hi => ?_⟩
    unfold cs_Qs
    rw [cs_mv_out (by omega), cs_mv_out (by omega), cs_mv_out (by omega), cs_mv_out (by omega)]
    exact g i hi
/-! inboxes -/
theorem cs_I_in {bf : Nat} {FC FZ FB NU CI LE BY BX IF BH BB : Nat → Int32} {s n f p c z : Nat} (h : cs_I bf FC FZ FB BX IF BH BB) (hs : s < 4) (hn : n < 4)
    (hq : BX s = nI n) (hf : cs_FP bf FC FZ FB NU CI LE BY f p c z) :
    cs_I bf FC FZ FB (upd BX s (nI (n + 1))) (upd IF (4 * s + n) (nI f)) (upd BH (4 * s + n) (nI (32 * c + z))) (cs_cp BB (27 * (4 * s + n)) (fun i => BY (27 * p + i)) 27) := by
  obtain ⟨a1, a2, a3, a4, a5, a6, a7, a8, a9, a10, a11⟩ := hf
  intro s' hs'
  obtain ⟨n', hn', e', g⟩ := h s' hs'
  have old : ∀ j, j ≠ 4 * s + n → cs_Is bf FC FZ FB IF BH BB j → cs_Is bf FC FZ FB (upd IF (4 * s + n) (nI f)) (upd BH (4 * s + n) (nI (32 * c + z))) (cs_cp BB (27 * (4 * s + n)) (fun i => BY (27 * p + i)) 27) j := by
    intro j hj ⟨f1, c1, z1, d1, d2, d3, d4, d5, d6, d7, d8, d9⟩
    refine ⟨f1, c1, z1, by rw [pk_un hj]; exact d1, d2, d3, d4, d5, d6, d7, by rw [pk_un hj]; exact d8, fun i hi => ?_⟩
    rw [cs_cp_out (by omega)]
    exact d9 i hi
  by_cases e : s' = s
  · subst e
    have en : n' = n := cs_nI_inj (by omega) (by omega) (e'.symm.trans hq)
    subst en
    refine ⟨n' + 1, by omega, pk_us, fun i hi => ?_⟩
    by_cases ei : i = n'
    · subst ei
      refine ⟨f, c, z, pk_us, a2, a3, a4, a5, a7, a9, pk_us, fun q hq => ?_⟩
      rw [cs_cp_in (by omega)]
      exact a11 q hq
    · exact old _ (by omega) (g i (by omega))
  · exact ⟨n', hn', by rw [pk_un e]; exact e', fun i hi => old _ (by omega) (g i hi)⟩
theorem cs_I_out {bf : Nat} {FC FZ FB BX IF BH BB : Nat → Int32} {s n : Nat} (h : cs_I bf FC FZ FB BX IF BH BB) (hs : s < 4) (hn : n < 4)
    (hq : BX s = nI (n + 1)) :
    cs_I bf FC FZ FB (upd BX s (nI n)) (cs_mv IF 1 (4 * s) n) (cs_mv BH 1 (4 * s) n) (cs_mv BB 27 (108 * s) (27 * n)) := by
  intro s' hs'
  obtain ⟨n', hn', e', g⟩ := h s' hs'
  by_cases e : s' = s
  · subst e
    have en : n' = n + 1 := cs_nI_inj (by omega) (by omega) (e'.symm.trans hq)
    subst en
    refine ⟨n, by omega, pk_us, fun i hi => ?_⟩
    obtain ⟨f1, c1, z1, d1, d2, d3, d4, d5, d6, d7, d8, d9⟩ := g (i + 1) (by omega)
    refine ⟨f1, c1, z1, ?_, d2, d3, d4, d5, d6, d7, ?_, fun q hq => ?_⟩
    · rw [cs_mv_in (by omega) (by omega)]
      exact d1
    · rw [cs_mv_in (by omega) (by omega)]
      exact d8
    · rw [cs_mv_in (by omega) (by omega), ← d9 q hq]
      exact congrArg BB (by omega)
  · refine ⟨n', hn', by rw [pk_un e]; exact e', fun i hi => ?_⟩
    obtain ⟨f1, c1, z1, d1, d2, d3, d4, d5, d6, d7, d8, d9⟩ := g i hi
    refine ⟨f1, c1, z1, ?_, d2, d3, d4, d5, d6, d7, ?_, fun q hq => ?_⟩
    · rw [cs_mv_out (by omega)]
      exact d1
    · rw [cs_mv_out (by omega)]
      exact d8
    · rw [cs_mv_out (by omega)]
      exact d9 q hq
/-! what is kept: at one circuit -/
theorem cs_K_at {op KX KY KF KO KS KM KT KX' KY' KF' KO' KS' KM' KT' : Nat → Int32} {c : Nat} (h : cs_K op KX KY KF KO KS KM KT) (ho : op c ≠ 0)
    (e1 : ∀ j, j ≠ c → KX' j = KX j) (e2 : ∀ j, j ≠ c → KY' j = KY j) (e3 : ∀ j, j ≠ c → KF' j = KF j) (e4 : ∀ j, j ≠ c → KO' j = KO j)
    (e5 : ∀ j, j ≠ c → KS' j = KS j) (e6 : ∀ j, j ≠ c → KM' j = KM j) (e7 : ∀ j, j ≠ c → KT' j = KT j)
    (g1 : KX' c = KY' c) (g2 : KX' c ≠ 0 → KO' c = KF' c + 1) (g3 : KS' c = 0 ↔ (KM' c = 0 ∧ KT' c = 0)) : cs_K op KX' KY' KF' KO' KS' KM' KT' := by
  intro j hj
  by_cases e : j = c
  · subst e
    exact ⟨fun z => absurd z ho, fun _ => ⟨g1, g2, g3⟩⟩
  · rw [e1 j e, e2 j e, e3 j e, e4 j e, e5 j e, e6 j e, e7 j e]
    exact h j hj
theorem cs_T_0 {TA HA CA : Nat → Int32} {s t : Nat} {x y z : Int32} (h : cs_T TA HA CA) (ht : t ≤ 3) (hx : x = nI t) (hy : y = nI (if t = 3 then 0 else t)) (hz : z = nI (if t = 3 then 1 else 0)) :
    cs_T (upd TA s x) (upd HA s y) (upd CA s z) := by
  intro j hj
  by_cases e : j = s
  · exact ⟨t, ht, by rw [cs_us e]; exact hx, by rw [cs_us e]; exact hy, by rw [cs_us e]; exact hz⟩
  · rw [pk_un e, pk_un e, pk_un e]
    exact h j hj
theorem cs_L_u {n N s l : Nat} {a : Nat → Int32} {x : Int32} (h : cs_L n a N) (hl : l < N) (hx : x = nI l) : cs_L n (upd a s x) N := by
  intro j hj
  by_cases e : j = s
  · exact ⟨l, hl, by rw [cs_us e]; exact hx⟩
  · rw [pk_un e]
    exact h j hj
end
section
/-! the relation's parts over other frames, bytes, circuits -/
theorem cs_W_mono {FP FP' : Nat → Nat → Nat → Nat → Prop} {op W WF WT HD SP NX NY : Nat → Int32} (h : cs_W FP op W WF WT HD SP NX NY) (g : ∀ f p c z, FP f p c z → FP' f p c z) :
    cs_W FP' op W WF WT HD SP NX NY := by
  intro c hc
  rcases h c hc with a | ⟨ho, hw, f, p, z, m, b1, b2, b3, b4⟩ | ⟨ho, hw, f, p, z, m, f', p', z', ⟨b1, b2, b3, b4⟩, d1, d2, d3, d4⟩
  · exact Or.inl a
  · exact Or.inr (Or.inl ⟨ho, hw, f, p, z, m, b1, b2, g _ _ _ _ b3, b4⟩)
  · exact Or.inr (Or.inr ⟨ho, hw, f, p, z, m, f', p', z', ⟨b1, b2, g _ _ _ _ b3, b4⟩, d1, d2, g _ _ _ _ d3, d4⟩)
theorem cs_Q_mono {FP FP' : Nat → Nat → Nat → Nat → Prop} {op TO QC QX QF QL QT : Nat → Int32} (h : cs_Q FP op TO QC QX QF QL QT) (g : ∀ f p c z, FP f p c z → FP' f p c z) :
    cs_Q FP' op TO QC QX QF QL QT := by
  intro s hs
  obtain ⟨n, hn, e, a⟩ := h s hs
  refine ⟨n, hn, e, fun i hi => ?_⟩
  obtain ⟨f, p, c, z, l, t, a1, a2, a3, a4, a5, a6, a7, a8⟩ := a i hi
  exact ⟨f, p, c, z, l, t, a1, a2, a3, a4, a5, a6, g _ _ _ _ a7, a8⟩
theorem cs_FP_fb {bf : Nat} {FC FZ FB FB' NU CI LE BY : Nat → Int32} (hB : ∀ j, j < 27 * bf → FB' j = FB j) (f p c z : Nat) (h : cs_FP bf FC FZ FB NU CI LE BY f p c z) :
    cs_FP bf FC FZ FB' NU CI LE BY f p c z := by
  obtain ⟨a1, a2, a3, a4, a5, a6, a7, a8, a9, a10, a11⟩ := h
  refine ⟨a1, a2, a3, a4, a5, a6, a7, a8, a9, a10, fun i hi => ?_⟩
  rw [hB _ (by omega)]
  exact a11 i hi
theorem cs_I_fb {bf bf' : Nat} {FC FZ FB FC' FZ' FB' BX IF BH BB : Nat → Int32} (h : cs_I bf FC FZ FB BX IF BH BB) (hb : bf ≤ bf') (hC : ∀ f, f < bf → FC' f = FC f) (hZ : ∀ f, f < bf → FZ' f = FZ f) (hB : ∀ j, j < 27 * bf → FB' j = FB j) :
    cs_I bf' FC' FZ' FB' BX IF BH BB := by
  intro s hs
  obtain ⟨n, hn, e, a⟩ := h s hs
  refine ⟨n, hn, e, fun i hi => ?_⟩
  obtain ⟨f, c, z, d1, d2, d3, d4, d5, d6, d7, d8, d9⟩ := a i hi
  refine ⟨f, c, z, d1, by omega, d3, d4, d5, by rw [hC f d2]; exact d6, by rw [hZ f d2]; exact d7, d8, fun q hq => ?_⟩
  rw [hB _ (by omega)]
  exact d9 q hq
/-! a circuit begins -/
theorem cs_W_begin {FP : Nat → Nat → Nat → Nat → Prop} {op W WF WT HD SP NX NY : Nat → Int32} {c : Nat} (h : cs_W FP op W WF WT HD SP NX NY) (ho : op c = 0) (hc : c < 8) :
    cs_W FP (upd op c 1) W WF WT HD SP NX (upd NY c 0) ∧ W c = 0 := by
  have hW : W c = nI 0 ∧ HD c = 0 ∧ NX c = 0 := by
    rcases h c hc with a | a | a
    · exact ⟨a.1, a.2.1, a.2.2.1⟩
    · exact absurd ho a.1
    · exact absurd ho a.1
  refine ⟨fun c' hc' => ?_, hW.1⟩
  by_cases e : c' = c
  · subst e
    exact Or.inl ⟨hW.1, hW.2.1, hW.2.2, fun _ => pk_us⟩
  · exact cs_Wc_ext (h c' hc') rfl rfl rfl rfl rfl rfl rfl (pk_un e) (fun _ _ _ _ => rfl) (pk_un e)
theorem cs_K_begin {op KX KY KF KO KS KM KT : Nat → Int32} {c : Nat} (h : cs_K op KX KY KF KO KS KM KT) (ho : op c = 0) (hc : c < 8) :
    cs_K (upd op c 1) KX (upd KY c 0) KF KO KS (upd KM c 0) (upd KT c 0) := by
  intro c' hc'
  by_cases e : c' = c
  · subst e
    obtain ⟨a, b⟩ := (h c' hc').1 ho
    rw [pk_us, pk_us, pk_us, pk_us, a, b]
    exact ⟨fun z => absurd z cs_10, fun _ => ⟨rfl, fun z => absurd rfl z, ⟨fun _ => ⟨rfl, rfl⟩, fun _ => rfl⟩⟩⟩
  · rw [pk_un e, pk_un e, pk_un e, pk_un e]
    exact h c' hc'
theorem cs_Q_begin {FP : Nat → Nat → Nat → Nat → Prop} {op TO QC QX QF QL QT : Nat → Int32} {c : Nat} {x : Int32} (h : cs_Q FP op TO QC QX QF QL QT) (ho : op c = 0) :
    cs_Q FP (upd op c 1) (upd TO c x) QC QX QF QL QT := by
  intro s hs
  obtain ⟨n, hn, e, a⟩ := h s hs
  refine ⟨n, hn, e, fun i hi => ?_⟩
  obtain ⟨f, p, d, z, l, t, a1, a2, a3, a4, a5, a6, a7, a8, a9⟩ := a i hi
  have hd : d ≠ c := fun q => a8 (by rw [q]; exact ho)
  exact ⟨f, p, d, z, l, t, a1, a2, a3, a4, a5, a6, a7, by rw [pk_un hd]; exact a8, by rw [pk_un hd]; exact a9⟩
/-! a circuit ends -/
theorem cs_W_end {FP : Nat → Nat → Nat → Nat → Prop} {op W WF WT HD SP NX NY : Nat → Int32} {c : Nat} (h : cs_W FP op W WF WT HD SP NX NY) :
    cs_W FP (upd op c 0) (upd W c 0) WF WT (upd HD c 0) SP (upd NX c 0) NY := by
  intro c' hc'
  by_cases e : c' = c
  · subst e
    exact Or.inl ⟨pk_us, pk_us, pk_us, fun z => absurd pk_us z⟩
  · exact cs_Wc_ext (h c' hc') (pk_un e) rfl rfl rfl rfl (pk_un e) (pk_un e) rfl (fun _ _ _ _ => rfl) (pk_un e)
theorem cs_K_end {op KX KY KF KO KS KM KT : Nat → Int32} {c : Nat} (h : cs_K op KX KY KF KO KS KM KT) :
    cs_K (upd op c 0) (upd KX c 0) KY KF KO (upd KS c 0) KM KT := by
  intro c' hc'
  by_cases e : c' = c
  · subst e
    rw [pk_us, pk_us, pk_us]
    exact ⟨fun _ => ⟨rfl, rfl⟩, fun z => absurd rfl z⟩
  · rw [pk_un e, pk_un e, pk_un e]
    exact h c' hc'
theorem cs_Q_end {bf : Nat} {FC FZ FB NU CI LE BY op TO QC QX QF QL QT : Nat → Int32} {c to : Nat} (h : cs_Q (cs_FP bf FC FZ FB NU CI LE BY) op TO QC QX QF QL QT) (hto : TO c = nI to) (hto4 : to < 4)
    (hno : ∀ n, n ≤ 6 → QC to = nI n → ∀ i, i < n → CI (QF (6 * to + i)).toNatClampNeg ≠ nI c) :
    cs_Q (cs_FP bf FC FZ FB NU CI LE BY) (upd op c 0) TO QC QX QF QL QT := by
  intro s hs
  obtain ⟨n, hn, e, a⟩ := h s hs
  refine ⟨n, hn, e, fun i hi => ?_⟩
  obtain ⟨f, p, d, z, l, t, a1, a2, a3, a4, a5, a6, a7, a8, a9⟩ := a i hi
  have hd : d ≠ c := by
    intro q
    rw [q, hto] at a9
    have es := cs_nI_inj (by omega) (by omega) a9
    subst es
    refine hno n hn e i hi ?_
    have hp := a7.1
    rw [a2, nI_clamp (by omega), ← q]
    exact a7.2.2.2.2.2.2.2.1
  exact ⟨f, p, d, z, l, t, a1, a2, a3, a4, a5, a6, a7, by rw [pk_un hd]; exact a8, a9⟩
/-! a frame is made -/
theorem cs_FP_old {bf : Nat} {FC FZ FB NU CI LE BY BU : Nat → Int32} {x1 x2 x3 x4 x5 : Int32} {q bs : Nat} (hbs : bs ≤ 27) {f p c z : Nat} (h : cs_FP bf FC FZ FB NU CI LE BY f p c z) (hq : p ≠ q) :
    cs_FP (bf + 1) (upd FC bf x1) (upd FZ bf x2) FB (upd NU q x3) (upd CI q x4) (upd LE q x5) (cs_cp BY (27 * q) BU bs) f p c z := by
  obtain ⟨a1, a2, a3, a4, a5, a6, a7, a8, a9, a10, a11⟩ := h
  have hf : f ≠ bf := by omega
  refine ⟨a1, by omega, a3, a4, a5, ?_, ?_, ?_, ?_, ?_, fun i hi => ?_⟩
  · rw [pk_un hq]; exact a6
  · rw [pk_un hf]; exact a7
  · rw [pk_un hq]; exact a8
  · rw [pk_un hf]; exact a9
  · rw [pk_un hq]; exact a10
  · rw [cs_cp_out (by omega)]; exact a11 i hi
theorem cs_FP_new {bf : Nat} {FC FZ FB NU CI LE BY BU : Nat → Int32} {q bs c : Nat} (hbs : bs ≤ 27) (hbs1 : 1 ≤ bs) (hc : c < 8) (hq : q < 64) (hB : ∀ i, i < bs → BU i = FB (27 * bf + i)) :
    cs_FP (bf + 1) (upd FC bf (nI c)) (upd FZ bf (nI bs)) FB (upd NU q (nI (bf + 1))) (upd CI q (nI c)) (upd LE q (nI bs)) (cs_cp BY (27 * q) BU bs) bf q c bs :=
  ⟨hq, by omega, hc, hbs1, hbs, pk_us, pk_us, pk_us, pk_us, pk_us, fun i hi => (cs_cp_in hi).trans (hB i hi)⟩
theorem cs_W_post {FP FP' : Nat → Nat → Nat → Nat → Prop} {op W WF WT HD SP NX NY : Nat → Int32} {c w q bf bs : Nat} (h : cs_W FP op W WF WT HD SP NX NY) (hc : c < 8) (ho : op c ≠ 0) (hw : w < 2) (hW : W c = nI w)
    (hbs1 : 1 ≤ bs) (hbf : bf ≤ 256) (hF : ∀ f p d z, FP f p d z → f < bf ∧ p < 64)
    (hU : ∀ d j n, d < 8 → n ≤ 2 → W d = nI n → j < n → WT (2 * d + j) ≠ nI q) (ho' : ∀ f p d z, FP f p d z → p ≠ q → FP' f p d z) (hn' : FP' bf q c bs) :
    cs_W FP' op (upd W c (nI (w + 1))) (upd WF (2 * c + w) (nI bf)) (upd WT (2 * c + w) (nI q)) HD (upd SP q 0) NX NY := by
  intro d hd
  by_cases e : d = c
  · subst e
    rcases h d hd with a | ⟨_, hw', f, p, z, m, b1, b2, b3, b4, b5, b6, b7⟩ | ⟨_, hw', _⟩
    · have ew : w = 0 := cs_nI_inj (by omega) (by omega) (hW.symm.trans a.1)
      subst ew
      refine Or.inr (Or.inl ⟨ho, pk_us, bf, q, bs, 0, pk_us, pk_us, hn', a.2.2.1, a.2.2.2 ho, by omega, ?_⟩)
      rw [pk_us, a.2.1]
    · have ew : w = 1 := cs_nI_inj (by omega) (by omega) (hW.symm.trans hw')
      subst ew
      have hp := hF _ _ _ _ b3
      have hpq : p ≠ q := fun z => hU d 0 1 hd (by omega) hW (by omega) (by rw [← z]; exact b2)
      refine Or.inr (Or.inr ⟨ho, pk_us, f, p, z, m, bf, q, bs, ⟨?_, ?_, ho' _ _ _ _ b3 hpq, b4, b5, b6, ?_⟩, pk_us, pk_us, hn', pk_us, by omega⟩)
      · rw [pk_un (by omega)]; exact b1
      · rw [pk_un (by omega)]; exact b2
      · rw [pk_un hpq]; exact b7
    · have ew : w = 2 := cs_nI_inj (by omega) (by omega) (hW.symm.trans hw')
      omega
  · unfold cs_Wc
    rw [pk_un e]
    rcases h d hd with a | ⟨ho1, hw', f, p, z, m, b1, b2, b3, b4, b5, b6, b7⟩ | ⟨ho1, hw', f, p, z, m, f', p', z', ⟨b1, b2, b3, b4, b5, b6, b7⟩, d1, d2, d3, d4, d5⟩
    · exact Or.inl a
    · have hpq : p ≠ q := fun z => hU d 0 1 hd (by omega) hw' (by omega) (by rw [← z]; exact b2)
      refine Or.inr (Or.inl ⟨ho1, hw', f, p, z, m, ?_, ?_, ho' _ _ _ _ b3 hpq, b4, b5, b6, ?_⟩)
      · rw [pk_un (by omega)]; exact b1
      · rw [pk_un (by omega)]; exact b2
      · rw [pk_un hpq]; exact b7
    · have hpq : p ≠ q := fun z => hU d 0 2 hd (by omega) hw' (by omega) (by rw [← z]; exact b2)
      have hpq' : p' ≠ q := fun z => hU d 1 2 hd (by omega) hw' (by omega) (by rw [← z]; exact d2)
      refine Or.inr (Or.inr ⟨ho1, hw', f, p, z, m, f', p', z', ⟨?_, ?_, ho' _ _ _ _ b3 hpq, b4, b5, b6, ?_⟩, ?_, ?_, ho' _ _ _ _ d3 hpq', ?_, d5⟩)
      · rw [pk_un (by omega)]; exact b1
      · rw [pk_un (by omega)]; exact b2
      · rw [pk_un hpq]; exact b7
      · rw [pk_un (by omega)]; exact d1
      · rw [pk_un (by omega)]; exact d2
      · rw [pk_un hpq']; exact d4
theorem cs_Q_post {FP FP' : Nat → Nat → Nat → Nat → Prop} {op TO QC QX QF QL QT : Nat → Int32} {q : Nat} (h : cs_Q FP op TO QC QX QF QL QT)
    (hU : ∀ s i n, s < 4 → n ≤ 6 → QC s = nI n → i < n → QF (6 * s + i) ≠ nI q) (ho' : ∀ f p d z, FP f p d z → p ≠ q → FP' f p d z) : cs_Q FP' op TO QC QX QF QL QT := by
  intro s hs
  obtain ⟨n, hn, e, a⟩ := h s hs
  refine ⟨n, hn, e, fun i hi => ?_⟩
  obtain ⟨f, p, c, z, l, t, a1, a2, a3, a4, a5, a6, a7, a8⟩ := a i hi
  have hpq : p ≠ q := fun z => hU s i n hs hn e hi (by rw [← z]; exact a2)
  exact ⟨f, p, c, z, l, t, a1, a2, a3, a4, a5, a6, ho' _ _ _ _ a7 hpq, a8⟩
/-! the bound on posts -/
theorem cs_N_up {k k' bf bs : Nat} {op : Nat → Int32} (h : cs_N k bf bs op) (hk : k ≤ k') : cs_N k' bf bs op := ⟨Nat.le_trans h.1 hk, fun q => Nat.le_trans (h.2 q) hk⟩
theorem cs_N_fill {k bf bs bs' : Nat} {op : Nat → Int32} (h : cs_N k bf bs op) : cs_N (k + 5) bf bs' op := by
  obtain ⟨a, b⟩ := h
  refine ⟨by omega, fun q => ?_⟩
  have := b q
  clear b q
  omega
theorem cs_N_begin {k bf bs c : Nat} {op : Nat → Int32} (h : cs_N k bf bs op) : cs_N (k + 5) bf bs (upd op c 1) := by
  obtain ⟨a, b⟩ := h
  clear b
  exact ⟨by omega, fun _ => by omega⟩
theorem cs_N_end {k bf bs c : Nat} {op : Nat → Int32} (h : cs_N k bf bs op) : cs_N k bf bs (upd op c 0) := by
  obtain ⟨a, b⟩ := h
  refine ⟨a, fun q => b ?_⟩
  rcases q with q | ⟨d, hd, e⟩
  · exact Or.inl q
  · by_cases z : d = c
    · exact absurd (cs_us z) e
    · rw [pk_un z] at e
      exact Or.inr ⟨d, hd, e⟩
theorem cs_N_post {k bf bs c : Nat} {op : Nat → Int32} (h : cs_N k bf bs op) (hk : k + 5 ≤ 2560) (hc : c < 8) (ho : op c ≠ 0) (hbs : 1 ≤ bs) : bf + 1 ≤ 255 ∧ cs_N (k + 5) (bf + 1) 0 op := by
  have b := h.2 (Or.inr ⟨c, hc, ho⟩)
  refine ⟨by omega, by omega, fun _ => by omega⟩
end
section
/-! the relation -/
def i_Rel (k : Nat) (u : SX) (v : SY) : Prop := ∃ (now : Int32) (bf bs : Nat) (CN FB FZ FC op FR TO GA TL DU W WF NX HD KX KF KS LA TA WA QC QX BX IF BU WT NY KY KO KM KT NU CI LE SP BY HA CA QF QL QT BH BB : Nat → Int32), u = (now, (nI bf), (nI bs), CN, FB, FZ, FC, op, FR, TO, GA, TL, DU, W, WF, NX, HD, KX, KF, KS, LA, TA, WA, QC, QX, BX, IF) ∧ v = (now, (nI bs), (nI bf), CN, BU, op, FR, TO, GA, TL, DU, W, WT, NY, KY, KO, KM, KT, NU, CI, LE, SP, BY, LA, HA, CA, WA, QC, QF, QL, QT, BX, BH, BB) ∧
  bf ≤ 255 ∧ bs ≤ 27 ∧ cs_N k bf bs op ∧ (∀ i, i < bs → BU i = FB (27 * bf + i)) ∧
  cs_W (cs_FP bf FC FZ FB NU CI LE BY) op W WF WT HD SP NX NY ∧ cs_K op KX KY KF KO KS KM KT ∧ cs_Q (cs_FP bf FC FZ FB NU CI LE BY) op TO QC QX QF QL QT ∧
  cs_I bf FC FZ FB BX IF BH BB ∧ cs_T TA HA CA ∧ cs_L 4 LA 8 ∧ cs_L 8 TO 4
theorem cs_mk {now : Int32} {bf bs : Nat} {CN FB FZ FC op FR TO GA TL DU W WF NX HD KX KF KS LA TA WA QC QX BX IF BU WT NY KY KO KM KT NU CI LE SP BY HA CA QF QL QT BH BB : Nat → Int32} {k : Nat} (h1 : bf ≤ 255) (h2 : bs ≤ 27) (h3 : cs_N k bf bs op) (h4 : ∀ i, i < bs → BU i = FB (27 * bf + i))
    (h5 : cs_W (cs_FP bf FC FZ FB NU CI LE BY) op W WF WT HD SP NX NY) (h6 : cs_K op KX KY KF KO KS KM KT) (h7 : cs_Q (cs_FP bf FC FZ FB NU CI LE BY) op TO QC QX QF QL QT)
    (h8 : cs_I bf FC FZ FB BX IF BH BB) (h9 : cs_T TA HA CA) (h10 : cs_L 4 LA 8) (h11 : cs_L 8 TO 4) : i_Rel k (now, (nI bf), (nI bs), CN, FB, FZ, FC, op, FR, TO, GA, TL, DU, W, WF, NX, HD, KX, KF, KS, LA, TA, WA, QC, QX, BX, IF) (now, (nI bs), (nI bf), CN, BU, op, FR, TO, GA, TL, DU, W, WT, NY, KY, KO, KM, KT, NU, CI, LE, SP, BY, LA, HA, CA, WA, QC, QF, QL, QT, BX, BH, BB) :=
  ⟨now, bf, bs, CN, FB, FZ, FC, op, FR, TO, GA, TL, DU, W, WF, NX, HD, KX, KF, KS, LA, TA, WA, QC, QX, BX, IF, BU, WT, NY, KY, KO, KM, KT, NU, CI, LE, SP, BY, HA, CA, QF, QL, QT, BH, BB, rfl, rfl, h1, h2, h3, h4, h5, h6, h7, h8, h9, h10, h11⟩
theorem cs_kup {k k' : Nat} {u : SX} {v : SY} (h : i_Rel k u v) (hk : k ≤ k') : i_Rel k' u v := by
  obtain ⟨now, bf, bs, CN, FB, FZ, FC, op, FR, TO, GA, TL, DU, W, WF, NX, HD, KX, KF, KS, LA, TA, WA, QC, QX, BX, IF, BU, WT, NY, KY, KO, KM, KT, NU, CI, LE, SP, BY, HA, CA, QF, QL, QT, BH, BB, rfl, rfl, h1, h2, h3, h⟩ := h
  exact ⟨now, bf, bs, CN, FB, FZ, FC, op, FR, TO, GA, TL, DU, W, WF, NX, HD, KX, KF, KS, LA, TA, WA, QC, QX, BX, IF, BU, WT, NY, KY, KO, KM, KT, NU, CI, LE, SP, BY, HA, CA, QF, QL, QT, BH, BB, rfl, rfl, h1, h2, cs_N_up h3 hk, h⟩
theorem i_up {k : Nat} {u : SX} {v : SY} (h : i_Rel k u v) : i_Rel (k + 5) u v := cs_kup h (by omega)
end
section
theorem cs_m2 (s : Nat) : nI s * 2 = nI (2 * s) := by rw [Nat.mul_comm]; exact pk_mul s 2
theorem cs_2m (s : Nat) : 2 * nI s = nI (2 * s) := pk_mul 2 s
theorem cs_m4 (s : Nat) : nI s * 4 = nI (4 * s) := by rw [Nat.mul_comm]; exact pk_mul s 4
theorem cs_4m (s : Nat) : 4 * nI s = nI (4 * s) := pk_mul 4 s
theorem cs_m6 (s : Nat) : nI s * 6 = nI (6 * s) := by rw [Nat.mul_comm]; exact pk_mul s 6
theorem cs_6m (s : Nat) : 6 * nI s = nI (6 * s) := pk_mul 6 s
theorem cs_m27 (s : Nat) : nI s * 27 = nI (27 * s) := by rw [Nat.mul_comm]; exact pk_mul s 27
theorem cs_27m (s : Nat) : 27 * nI s = nI (27 * s) := pk_mul 27 s
theorem cs_m32 (s : Nat) : nI s * 32 = nI (32 * s) := by rw [Nat.mul_comm]; exact pk_mul s 32
theorem cs_32m (s : Nat) : 32 * nI s = nI (32 * s) := pk_mul 32 s
theorem cs_m108 (s : Nat) : nI s * 108 = nI (108 * s) := by rw [Nat.mul_comm]; exact pk_mul s 108
theorem cs_108m (s : Nat) : 108 * nI s = nI (108 * s) := pk_mul 108 s
theorem cs_z2 : ¬ (2 : Int32) = 0 := by decide
theorem cs_z4 : ¬ (4 : Int32) = 0 := by decide
theorem cs_z6 : ¬ (6 : Int32) = 0 := by decide
theorem cs_z8 : ¬ (8 : Int32) = 0 := by decide
theorem cs_z256 : ¬ (256 : Int32) = 0 := by decide
theorem cs_z32 : ¬ (32 : Int32) = 0 := by decide
theorem cs_ge {p : Int32} {a b : Nat} (h : nI b ≤ p) (hab : a < b) (hb : b < 2 ^ 31) : ¬ p ≤ nI a := Int32.not_le.mpr (Int32.lt_of_lt_of_le (nI_lt hab hb) h)
theorem cs_ge0 {p : Int32} {b : Nat} (h : nI b ≤ p) (hb : b < 2 ^ 31) : ¬ p < 0 := Int32.not_lt.mpr (Int32.le_trans (nI_pos' hb) h)
theorem cs_stat (p0 : Int32) : ((∀ post : Int32 → Prop, post 0 → wpX_isStation post p0) ∧ (∀ (post : Int32 → Prop) (v : SY), post 1 → wpY_badStation post v p0)) ∨
    ∃ s, s < 4 ∧ p0 = nI s ∧ (∀ post : Int32 → Prop, post 1 → wpX_isStation post p0) ∧ (∀ (post : Int32 → Prop) (v : SY), post 0 → wpY_badStation post v p0) := by
  rcases pk_ix p0 (n := 4) (by decide) with h | h | ⟨s, hs, rfl⟩
  · exact Or.inl ⟨fun post q => br_t h q, fun post ⟨y1, y2, y3, y4, y5, y6, y7, y8, y9, y10, y11, y12, y13, y14, y15, y16, y17, y18, y19, y20, y21, y22, y23, y24, y25, y26, y27, y28, y29, y30, y31, y32, y33, y34⟩ q => br_t h q⟩
  · have h0 := cs_ge0 h (by decide)
    exact Or.inl ⟨fun post q => br_f h0 (br_t h q), fun post ⟨y1, y2, y3, y4, y5, y6, y7, y8, y9, y10, y11, y12, y13, y14, y15, y16, y17, y18, y19, y20, y21, y22, y23, y24, y25, y26, y27, y28, y29, y30, y31, y32, y33, y34⟩ q => br_f h0 (br_f (cs_ge (a := 3) h (by decide) (by decide)) q)⟩
  · have h0 : ¬ nI s < 0 := nI_pos (by omega)
    exact Or.inr ⟨s, hs, rfl, fun post q => br_f h0 (br_f (nI_ge (b := 4) hs (by decide)) q), fun post ⟨y1, y2, y3, y4, y5, y6, y7, y8, y9, y10, y11, y12, y13, y14, y15, y16, y17, y18, y19, y20, y21, y22, y23, y24, y25, y26, y27, y28, y29, y30, y31, y32, y33, y34⟩ q => br_f h0 (br_t (nI_le (b := 3) (by omega) (by decide)) q)⟩
theorem cs_circ (p0 : Int32) : ((∀ post : Int32 → Prop, post 0 → wpX_isCircuit post p0) ∧ (∀ (post : Int32 → Prop) (v : SY), post 1 → wpY_badCircuit post v p0)) ∨
    ∃ s, s < 8 ∧ p0 = nI s ∧ (∀ post : Int32 → Prop, post 1 → wpX_isCircuit post p0) ∧ (∀ (post : Int32 → Prop) (v : SY), post 0 → wpY_badCircuit post v p0) := by
  rcases pk_ix p0 (n := 8) (by decide) with h | h | ⟨s, hs, rfl⟩
  · exact Or.inl ⟨fun post q => br_t h q, fun post ⟨y1, y2, y3, y4, y5, y6, y7, y8, y9, y10, y11, y12, y13, y14, y15, y16, y17, y18, y19, y20, y21, y22, y23, y24, y25, y26, y27, y28, y29, y30, y31, y32, y33, y34⟩ q => br_t h q⟩
  · have h0 := cs_ge0 h (by decide)
    exact Or.inl ⟨fun post q => br_f h0 (br_t h q), fun post ⟨y1, y2, y3, y4, y5, y6, y7, y8, y9, y10, y11, y12, y13, y14, y15, y16, y17, y18, y19, y20, y21, y22, y23, y24, y25, y26, y27, y28, y29, y30, y31, y32, y33, y34⟩ q => br_f h0 (br_f (cs_ge (a := 7) h (by decide) (by decide)) q)⟩
  · have h0 : ¬ nI s < 0 := nI_pos (by omega)
    exact Or.inr ⟨s, hs, rfl, fun post q => br_f h0 (br_f (nI_ge (b := 8) hs (by decide)) q), fun post ⟨y1, y2, y3, y4, y5, y6, y7, y8, y9, y10, y11, y12, y13, y14, y15, y16, y17, y18, y19, y20, y21, y22, y23, y24, y25, y26, y27, y28, y29, y30, y31, y32, y33, y34⟩ q => br_f h0 (br_t (nI_le (b := 7) (by omega) (by decide)) q)⟩
theorem i_vc_time {k : Nat} {u : SX} {v : SY} (I : i_Rel k u v) (hk : k + 5 ≤ 2560) : wpX_time (fun r => wpY_time (fun r' => r' = r ∧ i_Rel (k + 5) u v) v) u := by
  have I' := i_up I
  obtain ⟨now, bf, bs, CN, FB, FZ, FC, op, FR, TO, GA, TL, DU, W, WF, NX, HD, KX, KF, KS, LA, TA, WA, QC, QX, BX, IF, BU, WT, NY, KY, KO, KM, KT, NU, CI, LE, SP, BY, HA, CA, QF, QL, QT, BH, BB, rfl, rfl, h1, h2, h3, h4, h5, h6, h7, h8, h9, h10, h11⟩ := I
  exact ⟨rfl, I'⟩
theorem i_vc_queued {k : Nat} {u : SX} {v : SY} (I : i_Rel k u v) (hk : k + 5 ≤ 2560) (v1 : Int32) : wpX_queued (fun r => wpY_queued (fun r' => r' = r ∧ i_Rel (k + 5) u v) v v1) u v1 := by
  have I' := i_up I
  obtain ⟨now, bf, bs, CN, FB, FZ, FC, op, FR, TO, GA, TL, DU, W, WF, NX, HD, KX, KF, KS, LA, TA, WA, QC, QX, BX, IF, BU, WT, NY, KY, KO, KM, KT, NU, CI, LE, SP, BY, HA, CA, QF, QL, QT, BH, BB, rfl, rfl, h1, h2, h3, h4, h5, h6, h7, h8, h9, h10, h11⟩ := I
  unfold wpX_queued wpY_queued
  rcases cs_stat v1 with ⟨hX, hY⟩ | ⟨s, hs, rfl, hX, hY⟩
  · exact hX _ (br_t rfl (hY _ _ (br_f cs_10 ⟨rfl, I'⟩)))
  · exact hX _ (br_f cs_10 ⟨vp_in_nI hs (by decide), hY _ _ (br_t rfl ⟨vp_in_nI hs (by decide), rfl, I'⟩)⟩)
theorem i_vc_inbox {k : Nat} {u : SX} {v : SY} (I : i_Rel k u v) (hk : k + 5 ≤ 2560) (v1 : Int32) : wpX_inbox (fun r => wpY_inbox (fun r' => r' = r ∧ i_Rel (k + 5) u v) v v1) u v1 := by
  have I' := i_up I
  obtain ⟨now, bf, bs, CN, FB, FZ, FC, op, FR, TO, GA, TL, DU, W, WF, NX, HD, KX, KF, KS, LA, TA, WA, QC, QX, BX, IF, BU, WT, NY, KY, KO, KM, KT, NU, CI, LE, SP, BY, HA, CA, QF, QL, QT, BH, BB, rfl, rfl, h1, h2, h3, h4, h5, h6, h7, h8, h9, h10, h11⟩ := I
  unfold wpX_inbox wpY_inbox
  rcases cs_stat v1 with ⟨hX, hY⟩ | ⟨s, hs, rfl, hX, hY⟩
  · exact hX _ (br_t rfl (hY _ _ (br_f cs_10 ⟨rfl, I'⟩)))
  · exact hX _ (br_f cs_10 ⟨vp_in_nI hs (by decide), hY _ _ (br_t rfl ⟨vp_in_nI hs (by decide), rfl, I'⟩)⟩)
theorem i_vc_counted {k : Nat} {u : SX} {v : SY} (I : i_Rel k u v) (hk : k + 5 ≤ 2560) (v1 : Int32) : wpX_counted (fun r => wpY_counted (fun r' => r' = r ∧ i_Rel (k + 5) u v) v v1) u v1 := by
  have I' := i_up I
  obtain ⟨now, bf, bs, CN, FB, FZ, FC, op, FR, TO, GA, TL, DU, W, WF, NX, HD, KX, KF, KS, LA, TA, WA, QC, QX, BX, IF, BU, WT, NY, KY, KO, KM, KT, NU, CI, LE, SP, BY, HA, CA, QF, QL, QT, BH, BB, rfl, rfl, h1, h2, h3, h4, h5, h6, h7, h8, h9, h10, h11⟩ := I
  unfold wpX_counted wpY_counted
  rcases pk_ix v1 (n := 7) (by decide) with h | h | ⟨s, hs, rfl⟩
  · exact br_t h (br_t h ⟨rfl, I'⟩)
  · have h0 := cs_ge0 h (by decide)
    exact br_f h0 (br_f (Int32.not_lt.mpr h) (br_f h0 (br_f (cs_ge (a := 6) h (by decide) (by decide)) ⟨rfl, I'⟩)))
  · have h0 : ¬ nI s < 0 := nI_pos (by omega)
    have hi : vp_in (nI s) 7 := vp_in_nI hs (by decide)
    exact br_f h0 (br_t (nI_lt (b := 7) hs (by decide)) ⟨hi, br_f h0 (br_t (nI_le (b := 6) (by omega) (by decide)) ⟨hi, rfl, I'⟩)⟩)
theorem i_vc_wary {k : Nat} {u : SX} {v : SY} (I : i_Rel k u v) (hk : k + 5 ≤ 2560) (v1 : Int32) : wpX_wary (fun r => wpY_wary (fun r' => r' = r ∧ i_Rel (k + 5) u v) v v1) u v1 := by
  have I' := i_up I
  obtain ⟨now, bf, bs, CN, FB, FZ, FC, op, FR, TO, GA, TL, DU, W, WF, NX, HD, KX, KF, KS, LA, TA, WA, QC, QX, BX, IF, BU, WT, NY, KY, KO, KM, KT, NU, CI, LE, SP, BY, HA, CA, QF, QL, QT, BH, BB, rfl, rfl, h1, h2, h3, h4, h5, h6, h7, h8, h9, h10, h11⟩ := I
  unfold wpX_wary wpY_wary
  rcases cs_stat v1 with ⟨hX, hY⟩ | ⟨s, hs, rfl, hX, hY⟩
  · exact hX _ (br_t rfl (hY _ _ (br_f cs_10 ⟨rfl, I'⟩)))
  · have hi : vp_in (nI s) 4 := vp_in_nI hs (by decide)
    by_cases q : WA (nI s).toNatClampNeg = 0
    · exact hX _ (br_f cs_10 ⟨hi, br_t q (hY _ _ (br_t rfl ⟨hi, br_t q ⟨rfl, I'⟩⟩))⟩)
    · exact hX _ (br_f cs_10 ⟨hi, br_f q (hY _ _ (br_t rfl ⟨hi, br_f q ⟨rfl, I'⟩⟩))⟩)
theorem i_vc_waiting {k : Nat} {u : SX} {v : SY} (I : i_Rel k u v) (hk : k + 5 ≤ 2560) (v1 : Int32) : wpX_waiting (fun r => wpY_waiting (fun r' => r' = r ∧ i_Rel (k + 5) u v) v v1) u v1 := by
  have I' := i_up I
  obtain ⟨now, bf, bs, CN, FB, FZ, FC, op, FR, TO, GA, TL, DU, W, WF, NX, HD, KX, KF, KS, LA, TA, WA, QC, QX, BX, IF, BU, WT, NY, KY, KO, KM, KT, NU, CI, LE, SP, BY, HA, CA, QF, QL, QT, BH, BB, rfl, rfl, h1, h2, h3, h4, h5, h6, h7, h8, h9, h10, h11⟩ := I
  unfold wpX_waiting wpY_waiting
  rcases cs_circ v1 with ⟨hX, hY⟩ | ⟨s, hs, rfl, hX, hY⟩
  · exact hX _ (br_t rfl (hY _ _ (br_f cs_10 ⟨rfl, I'⟩)))
  · have hi : vp_in (nI s) 8 := vp_in_nI hs (by decide)
    by_cases q : op (nI s).toNatClampNeg = 0
    · exact hX _ (br_f cs_10 ⟨hi, br_t q (hY _ _ (br_t rfl ⟨hi, br_t q ⟨rfl, I'⟩⟩))⟩)
    · exact hX _ (br_f cs_10 ⟨hi, br_f q ⟨hi, hY _ _ (br_t rfl ⟨hi, br_f q ⟨hi, rfl, I'⟩⟩)⟩⟩)
theorem cs_desc {now : Int32} {bf bs : Nat} {CN FB FZ FC op FR TO GA TL DU W WF NX HD KX KF KS LA TA WA QC QX BX IF BU WT NY KY KO KM KT NU CI LE SP BY HA CA QF QL QT BH BB : Nat → Int32} {s : Nat} (hs : s < 4) (hb : bf ≤ 255) (h8 : cs_I bf FC FZ FB BX IF BH BB) :
    (BX s = 0 ∧ ∀ post : Int32 → Prop, post (-2) → wpX_describeFirst post (now, (nI bf), (nI bs), CN, FB, FZ, FC, op, FR, TO, GA, TL, DU, W, WF, NX, HD, KX, KF, KS, LA, TA, WA, QC, QX, BX, IF) (nI s)) ∨
    (∃ n c z, n < 4 ∧ BX s = nI (n + 1) ∧ c < 8 ∧ 1 ≤ z ∧ z ≤ 27 ∧ BH (4 * s) = nI (32 * c + z) ∧ ∀ post : Int32 → Prop, post (nI (32 * c + z)) → wpX_describeFirst post (now, (nI bf), (nI bs), CN, FB, FZ, FC, op, FR, TO, GA, TL, DU, W, WF, NX, HD, KX, KF, KS, LA, TA, WA, QC, QX, BX, IF) (nI s)) := by
  obtain ⟨n, hn, e, g⟩ := h8 s hs
  have hi : vp_in (nI s) 4 := vp_in_nI hs (by decide)
  have ec : (nI s).toNatClampNeg = s := nI_clamp (by omega)
  rcases n with _ | n
  · refine Or.inl ⟨e, fun post q => ?_⟩
    unfold wpX_describeFirst
    exact ⟨hi, br_t (by rw [ec]; exact e) q⟩
  · obtain ⟨f, c, z, d1, d2, d3, d4, d5, d6, d7, d8, d9⟩ := g 0 (by omega)
    refine Or.inr ⟨n, c, z, by omega, e, d3, d4, d5, d8, fun post q => ?_⟩
    unfold wpX_describeFirst
    have hf : vp_in (nI f) 256 := vp_in_nI (by omega) (by decide)
    refine ⟨hi, br_f (by rw [ec, e]; exact nI_ne0 (by omega) (by omega)) ?_⟩
    rw [cs_m4, nI_clamp (show 4 * s < 2 ^ 31 by omega)]
    refine ⟨vp_in_nI (by omega) (by decide), nm_r d1 ⟨hf, hf, ?_⟩⟩
    rw [nI_clamp (show f < 2 ^ 31 by omega), d6, d7, cs_32m, nI_add]
    exact q
theorem i_vc_first {k : Nat} {u : SX} {v : SY} (I : i_Rel k u v) (hk : k + 5 ≤ 2560) (v1 : Int32) : wpX_first (fun r => wpY_first (fun r' => r' = r ∧ i_Rel (k + 5) u v) v v1) u v1 := by
  have I' := i_up I
  obtain ⟨now, bf, bs, CN, FB, FZ, FC, op, FR, TO, GA, TL, DU, W, WF, NX, HD, KX, KF, KS, LA, TA, WA, QC, QX, BX, IF, BU, WT, NY, KY, KO, KM, KT, NU, CI, LE, SP, BY, HA, CA, QF, QL, QT, BH, BB, rfl, rfl, h1, h2, h3, h4, h5, h6, h7, h8, h9, h10, h11⟩ := I
  unfold wpX_first wpY_first
  rcases cs_stat v1 with ⟨hX, hY⟩ | ⟨s, hs, rfl, hX, hY⟩
  · exact hX _ (br_t rfl (hY _ _ (br_f cs_10 ⟨rfl, I'⟩)))
  · have hi : vp_in (nI s) 4 := vp_in_nI hs (by decide)
    have ec : (nI s).toNatClampNeg = s := nI_clamp (by omega)
    refine hX _ (br_f cs_10 ?_)
    rcases @cs_desc now bf bs CN FB FZ FC op FR TO GA TL DU W WF NX HD KX KF KS LA TA WA QC QX BX IF BU WT NY KY KO KM KT NU CI LE SP BY HA CA QF QL QT BH BB s hs h1 h8 with ⟨e, hd⟩ | ⟨n, c, z, hn, e, hc, hz1, hz, eb, hd⟩
    · exact hd _ (hY _ _ (br_t rfl ⟨hi, br_t (by rw [ec]; exact e) ⟨rfl, I'⟩⟩))
    · refine hd _ (hY _ _ (br_t rfl ⟨hi, br_f (by rw [ec, e]; exact nI_ne0 (by omega) (by omega)) ?_⟩))
      rw [cs_4m, nI_clamp (show 4 * s < 2 ^ 31 by omega)]
      exact ⟨vp_in_nI (by omega) (by decide), eb, I'⟩
theorem i_vc_byteOf {k : Nat} {u : SX} {v : SY} (I : i_Rel k u v) (hk : k + 5 ≤ 2560) (v1 : Int32) (v2 : Int32) : wpX_byteOf (fun r => wpY_byteOf (fun r' => r' = r ∧ i_Rel (k + 5) u v) v v1 v2) u v1 v2 := by
  have I' := i_up I
  obtain ⟨now, bf, bs, CN, FB, FZ, FC, op, FR, TO, GA, TL, DU, W, WF, NX, HD, KX, KF, KS, LA, TA, WA, QC, QX, BX, IF, BU, WT, NY, KY, KO, KM, KT, NU, CI, LE, SP, BY, HA, CA, QF, QL, QT, BH, BB, rfl, rfl, h1, h2, h3, h4, h5, h6, h7, h8, h9, h10, h11⟩ := I
  unfold wpX_byteOf wpY_byteOf
  rcases cs_stat v1 with ⟨hX, hY⟩ | ⟨s, hs, rfl, hX, hY⟩
  · exact hX _ (br_t rfl (hY _ _ (br_f cs_10 ⟨rfl, I'⟩)))
  · have hi : vp_in (nI s) 4 := vp_in_nI hs (by decide)
    have ec : (nI s).toNatClampNeg = s := nI_clamp (by omega)
    obtain ⟨n, hn, e, g⟩ := h8 s hs
    refine hX _ (br_f cs_10 ⟨hi, ?_⟩)
    rcases n with _ | n
    · have e0 : BX (nI s).toNatClampNeg = 0 := by rw [ec]; exact e
      exact br_t e0 (hY _ _ (br_t rfl ⟨hi, br_t e0 ⟨rfl, I'⟩⟩))
    · have e0 : ¬ BX (nI s).toNatClampNeg = 0 := by rw [ec, e]; exact nI_ne0 (by omega) (by omega)
      obtain ⟨f, c, z, d1, d2, d3, d4, d5, d6, d7, d8, d9⟩ := g 0 (by omega)
      have hf : vp_in (nI f) 256 := vp_in_nI (by omega) (by decide)
      have ef : (nI f).toNatClampNeg = f := nI_clamp (by omega)
      have i4 : vp_in (nI (4 * s)) 16 := vp_in_nI (by omega) (by decide)
      have e4 : (nI (4 * s)).toNatClampNeg = 4 * s := nI_clamp (by omega)
      have er : nI (32 * c + z) - nI (32 * c + z) / 32 * 32 = nI z := by
        have := pk_rem (a := 32 * c + z) (d := 32) (by omega) (by decide) (by decide)
        rw [show (32 * c + z) % 32 = z by omega] at this
        exact this
      refine br_f e0 ?_
      rw [cs_m4, e4, cs_4m, e4]
      refine ⟨i4, nm_r d1 ?_⟩
      by_cases q : v2 < 0
      · exact br_t q (hY _ _ (br_t rfl ⟨hi, br_f e0 (br_t q ⟨rfl, I'⟩)⟩))
      · obtain ⟨i, hi2, rfl⟩ := nI_of q
        refine br_f q ⟨hf, ?_⟩
        rw [ef, d7]
        by_cases qz : i < z
        · have ez : nI i < nI z := nI_lt qz (by omega)
          refine br_t ez ?_
          rw [cs_m27, nI_add, nI_clamp (show 27 * f + i < 2 ^ 31 by omega)]
          refine ⟨vp_in_nI (by omega) (by decide), hY _ _ (br_t rfl ⟨hi, br_f e0 (br_f q ⟨i4, cs_z32, ?_⟩)⟩)⟩
          rw [show BH (4 * s) = nI (32 * c + z) from d8, er, cs_108m, nI_add, nI_clamp (show 108 * s + i < 2 ^ 31 by omega)]
          refine br_t ez ⟨vp_in_nI (by omega) (by decide), ?_, I'⟩
          rw [← d9 i qz]
          exact congrArg BB (by omega)
        · have ez : ¬ nI i < nI z := nI_nlt (by omega) hi2
          refine br_f ez (hY _ _ (br_t rfl ⟨hi, br_f e0 (br_f q ⟨i4, cs_z32, ?_⟩)⟩))
          rw [show BH (4 * s) = nI (32 * c + z) from d8, er]
          exact br_f ez ⟨rfl, I'⟩
theorem i_vc_turn {k : Nat} {u : SX} {v : SY} (I : i_Rel k u v) (hk : k + 5 ≤ 2560) (v1 : Int32) (v2 : Int32) (v3 : Int32) : wpX_turn (fun r u' => wpY_turn (fun r' v' => r' = r ∧ i_Rel (k + 5) u' v') v v1 v2 v3) u v1 v2 v3 := by
  have I' := i_up I
  obtain ⟨now, bf, bs, CN, FB, FZ, FC, op, FR, TO, GA, TL, DU, W, WF, NX, HD, KX, KF, KS, LA, TA, WA, QC, QX, BX, IF, BU, WT, NY, KY, KO, KM, KT, NU, CI, LE, SP, BY, HA, CA, QF, QL, QT, BH, BB, rfl, rfl, h1, h2, h3, h4, h5, h6, h7, h8, h9, h10, h11⟩ := I
  unfold wpX_turn wpY_turn
  rcases cs_stat v1 with ⟨hX, hY⟩ | ⟨s, hs, rfl, hX, hY⟩
  · exact hX _ (br_t rfl (hY _ _ (br_f cs_10 ⟨rfl, I'⟩)))
  · have hi : vp_in (nI s) 4 := vp_in_nI hs (by decide)
    refine hX _ (br_f cs_10 ?_)
    by_cases q : v2 < 0
    · exact br_t q (hY _ _ (br_t rfl (br_t q ⟨rfl, I'⟩)))
    · by_cases q3 : v2 ≤ 3
      · obtain ⟨t, ht, rfl⟩ := nI_of2 (n := 3) (by decide) q q3
        refine br_f q (br_t q3 ⟨hi, nm_e (hY _ _ (br_t rfl (br_f q (br_t q3 ?_))))⟩)
        have h3' := cs_N_up h3 (show k ≤ k + 5 by omega)
        by_cases e3 : t = 3
        · subst e3
          refine br_t rfl ⟨hi, nm_e (br_t rfl ⟨hi, nm_e ⟨rfl, ?_⟩⟩)⟩
          rw [cs_b1, nI_clamp (show s < 2 ^ 31 by omega)]
          exact cs_mk h1 h2 h3' h4 h5 h6 h7 h8 (cs_T_0 h9 ht rfl rfl rfl) h10 h11
        · have e3' : ¬ nI t = 3 := fun z => e3 (cs_nI_inj (b := 3) (by omega) (by decide) z)
          refine br_f e3' ⟨hi, nm_e (br_f e3' ⟨hi, nm_e ⟨rfl, ?_⟩⟩)⟩
          rw [cs_b0, nI_clamp (show s < 2 ^ 31 by omega)]
          exact cs_mk h1 h2 h3' h4 h5 h6 h7 h8 (cs_T_0 h9 ht rfl (by rw [if_neg e3]) (by rw [if_neg e3]; rfl)) h10 h11
      · exact br_f q (br_f q3 (hY _ _ (br_t rfl (br_f q (br_f q3 ⟨rfl, I'⟩)))))
end
section
theorem i_vc_open {k : Nat} {u : SX} {v : SY} (I : i_Rel k u v) (hk : k + 5 ≤ 2560) (v1 : Int32) (v2 : Int32) (v3 : Int32) (v4 : Int32) : wpX_open (fun r u' => wpY_open (fun r' v' => r' = r ∧ i_Rel (k + 5) u' v') v v1 v2 v3 v4) u v1 v2 v3 v4 := by
  have I' := i_up I
  obtain ⟨now, bf, bs, CN, FB, FZ, FC, op, FR, TO, GA, TL, DU, W, WF, NX, HD, KX, KF, KS, LA, TA, WA, QC, QX, BX, IF, BU, WT, NY, KY, KO, KM, KT, NU, CI, LE, SP, BY, HA, CA, QF, QL, QT, BH, BB, rfl, rfl, h1, h2, h3, h4, h5, h6, h7, h8, h9, h10, h11⟩ := I
  unfold wpX_open wpY_open
  dsimp only
  rcases cs_circ v1 with ⟨hX, hY⟩ | ⟨s, hs, rfl, hX, hY⟩
  · exact hX _ (br_t rfl (hY _ _ (br_f cs_10 ⟨rfl, I'⟩)))
  have hi : vp_in (nI s) 8 := vp_in_nI hs (by decide)
  have ec : (nI s).toNatClampNeg = s := nI_clamp (by omega)
  refine hX _ (br_f cs_10 ?_)
  by_cases q1 : v2 < 0
  · exact br_t q1 (hY _ _ (br_t rfl (br_t q1 ⟨rfl, I'⟩)))
  refine br_f q1 ?_
  by_cases q2 : v2 ≤ 15
  · have q2' : ¬ 15 < v2 := Int32.not_lt.mpr q2
    refine br_t q2 ?_
    by_cases q3 : v3 < 1
    · exact br_t q3 (hY _ _ (br_t rfl (br_f q1 (br_f q2' (br_t q3 ⟨rfl, I'⟩)))))
    refine br_f q3 ?_
    by_cases q4 : 8 < v3
    · exact br_t q4 (hY _ _ (br_t rfl (br_f q1 (br_f q2' (br_f q3 (br_t q4 ⟨rfl, I'⟩))))))
    refine br_f q4 ?_
    by_cases q5 : v4 < 0
    · exact br_t q5 (hY _ _ (br_t rfl (br_f q1 (br_f q2' (br_f q3 (br_f q4 (br_t q5 ⟨rfl, I'⟩)))))))
    refine br_f q5 ?_
    by_cases q6 : v4 ≤ 40
    · refine br_t q6 ⟨hi, ?_⟩
      by_cases qo : op (nI s).toNatClampNeg = 0
      · have qo' : op s = 0 := by rw [ec] at qo; exact qo
        refine br_t qo ⟨hi, nm_e ⟨cs_z4, hi, nm_e ⟨cs_z4, hi, nm_e ⟨hi, nm_e ⟨hi, nm_e ⟨hi, nm_e ?_⟩⟩⟩⟩⟩⟩
        refine hY _ _ (br_t rfl (br_f q1 (br_f q2' (br_f q3 (br_f q4 (br_f q5 (br_t q6 ⟨hi, br_t qo ?_⟩)))))))
        refine ⟨hi, nm_e ⟨cs_z4, hi, nm_e ⟨cs_z4, hi, nm_e ⟨hi, nm_e ⟨hi, nm_e ⟨hi, nm_e ⟨hi, nm_e ⟨hi, nm_e ?_⟩⟩⟩⟩⟩⟩⟩⟩
        unfold wpY_forget
        dsimp only
        refine ⟨hi, nm_e ⟨hi, nm_e ⟨hi, nm_e ⟨rfl, ?_⟩⟩⟩⟩
        obtain ⟨e, he, rfl⟩ := nI_of2 (n := 15) (by decide) q1 q2
        obtain ⟨g5, gW⟩ := cs_W_begin h5 qo' hs
        rw [cs_b1, cs_b0, ec, cs_id W s 0 gW]
        exact cs_mk h1 h2 (cs_N_begin h3) h4 g5 (cs_K_begin h6 qo' hs) (cs_Q_begin h7 qo') h8 h9 h10
          (cs_L_u h11 (Nat.mod_lt e (by decide)) (pk_rem (a := e) (d := 4) (by omega) (by decide) (by decide)))
      · exact br_f qo (hY _ _ (br_t rfl (br_f q1 (br_f q2' (br_f q3 (br_f q4 (br_f q5 (br_t q6 ⟨hi, br_f qo ⟨rfl, I'⟩⟩))))))))
    · exact br_f q6 (hY _ _ (br_t rfl (br_f q1 (br_f q2' (br_f q3 (br_f q4 (br_f q5 (br_f q6 ⟨rfl, I'⟩))))))))
  · have q2' : 15 < v2 := Int32.not_le.mp q2
    exact br_f q2 (hY _ _ (br_t rfl (br_f q1 (br_t q2' ⟨rfl, I'⟩))))
theorem cs_refill {now : Int32} {bf bs : Nat} {CN FB FZ FC op FR TO GA TL DU W WF NX HD KX KF KS LA TA WA QC QX BX IF BU WT NY KY KO KM KT NU CI LE SP BY HA CA QF QL QT BH BB : Nat → Int32} {k bs' : Nat} {FB' BU' : Nat → Int32} (h1 : bf ≤ 255) (h3 : cs_N k bf bs op)
    (h5 : cs_W (cs_FP bf FC FZ FB NU CI LE BY) op W WF WT HD SP NX NY) (h6 : cs_K op KX KY KF KO KS KM KT) (h7 : cs_Q (cs_FP bf FC FZ FB NU CI LE BY) op TO QC QX QF QL QT)
    (h8 : cs_I bf FC FZ FB BX IF BH BB) (h9 : cs_T TA HA CA) (h10 : cs_L 4 LA 8) (h11 : cs_L 8 TO 4)
    (hB : ∀ j, j < 27 * bf → FB' j = FB j) (h2' : bs' ≤ 27) (h4' : ∀ i, i < bs' → BU' i = FB' (27 * bf + i)) :
    i_Rel (k + 5) (now, (nI bf), nI bs', CN, FB', FZ, FC, op, FR, TO, GA, TL, DU, W, WF, NX, HD, KX, KF, KS, LA, TA, WA, QC, QX, BX, IF) (now, nI bs', (nI bf), CN, BU', op, FR, TO, GA, TL, DU, W, WT, NY, KY, KO, KM, KT, NU, CI, LE, SP, BY, LA, HA, CA, WA, QC, QF, QL, QT, BX, BH, BB) :=
  cs_mk h1 h2' (cs_N_fill h3) h4' (cs_W_mono h5 (cs_FP_fb hB)) h6 (cs_Q_mono h7 (cs_FP_fb hB)) (cs_I_fb h8 (Nat.le_refl _) (fun _ _ => rfl) (fun _ _ => rfl) hB) h9 h10 h11
theorem i_vc_fill {k : Nat} {u : SX} {v : SY} (I : i_Rel k u v) (hk : k + 5 ≤ 2560) (v1 : Int32) : wpX_fill (fun r u' => wpY_fill (fun r' v' => r' = r ∧ i_Rel (k + 5) u' v') v v1) u v1 := by
  have I' := i_up I
  obtain ⟨now, bf, bs, CN, FB, FZ, FC, op, FR, TO, GA, TL, DU, W, WF, NX, HD, KX, KF, KS, LA, TA, WA, QC, QX, BX, IF, BU, WT, NY, KY, KO, KM, KT, NU, CI, LE, SP, BY, HA, CA, QF, QL, QT, BH, BB, rfl, rfl, h1, h2, h3, h4, h5, h6, h7, h8, h9, h10, h11⟩ := I
  unfold wpX_fill wpY_fill
  dsimp only
  by_cases q1 : v1 < 0
  · exact br_t q1 (br_t q1 ⟨rfl, I'⟩)
  refine br_f q1 ?_
  by_cases q2 : v1 ≤ 255
  · refine br_t q2 ?_
    by_cases q3 : bs = 27
    · subst q3
      exact br_t rfl (br_f q1 (br_t q2 (br_t rfl ⟨rfl, I'⟩)))
    · have q3' : ¬ nI bs = 27 := fun z => q3 (cs_nI_inj (b := 27) (by omega) (by decide) z)
      refine br_f q3' ?_
      unfold wpX_append
      dsimp only
      rw [cs_m27, nI_add, nI_1, nI_clamp (show 27 * bf + bs < 2 ^ 31 by omega), nI_clamp (show bs < 2 ^ 31 by omega)]
      refine ⟨vp_in_nI (by omega) (by decide), nm_e (nm_e (br_f q1 (br_t q2 (br_f q3' ⟨vp_in_nI (by omega) (by decide), nm_e (nm_e ⟨rfl, ?_⟩)⟩))))⟩
      refine @cs_refill now bf bs CN FB FZ FC op FR TO GA TL DU W WF NX HD KX KF KS LA TA WA QC QX BX IF BU WT NY KY KO KM KT NU CI LE SP BY HA CA QF QL QT BH BB k _ _ _ h1 h3 h5 h6 h7 h8 h9 h10 h11 (fun j hj => pk_un (by omega)) (by omega) (fun i hi => ?_)
      by_cases e : i = bs
      · rw [cs_us e, cs_us (by omega)]
      · rw [pk_un e, pk_un (by omega)]
        exact h4 i (by omega)
  · exact br_f q2 (br_f q1 (br_f q2 ⟨rfl, I'⟩))
theorem cs_Xrun {now : Int32} {bf bs : Nat} {CN FB FZ FC op FR TO GA TL DU W WF NX HD KX KF KS LA TA WA QC QX BX IF : Nat → Int32} {m : Nat} {v1 v2 : Int32} (h1 : bf ≤ 255) (hm : bs + m ≤ 27) : ∀ d i, i + d = m → ∀ post : Int32 → SX → Prop,
    post (nI (bs + m)) (now, (nI bf), nI (bs + m), CN, cs_cp FB (27 * bf + bs) (fun i => (v1 + (v2 * nI i)) &&& 255) m, FZ, FC, op, FR, TO, GA, TL, DU, W, WF, NX, HD, KX, KF, KS, LA, TA, WA, QC, QX, BX, IF) →
    wX_run_23 post v1 v2 (nI m) (d + 1) (nI i) now (nI bf) (nI (bs + i)) CN (cs_cp FB (27 * bf + bs) (fun i => (v1 + (v2 * nI i)) &&& 255) i) FZ FC op FR TO GA TL DU W WF NX HD KX KF KS LA TA WA QC QX BX IF := by
  intro d
  induction d with
  | zero =>
    intro i hi post hp
    have e : i = m := by omega
    subst e
    exact br_t (Int32.le_refl _) hp
  | succ d ih =>
    intro i hi post hp
    refine br_f (nI_ge (by omega) (by omega)) ?_
    unfold wpX_append
    dsimp only
    have e1 : nI bf * 27 + nI (bs + i) = nI (27 * bf + bs + i) := by rw [cs_m27, nI_add, Nat.add_assoc]
    rw [e1, nI_clamp (show 27 * bf + bs + i < 2 ^ 31 by omega)]
    exact ⟨vp_in_nI (by omega) (by decide), nm_r (cs_cp_s FB (27 * bf + bs) (fun i => (v1 + (v2 * nI i)) &&& 255) i) (nm_r (nI_1 (bs + i)) (nm_r (nI_1 i) (ih (i + 1) (by omega) post hp)))⟩
theorem cs_Yrun {now : Int32} {bf bs : Nat} {CN BU op FR TO GA TL DU W WT NY KY KO KM KT NU CI LE SP BY LA HA CA WA QC QF QL QT BX BH BB : Nat → Int32} {m : Nat} {v1 v2 : Int32} (hm : bs + m ≤ 27) : ∀ d i, i + d = m → ∀ post : Int32 → SY → Prop,
    post (nI (bs + m)) (now, nI (bs + m), (nI bf), CN, cs_cp BU bs (fun i => (v1 + (v2 * nI i)) &&& 255) m, op, FR, TO, GA, TL, DU, W, WT, NY, KY, KO, KM, KT, NU, CI, LE, SP, BY, LA, HA, CA, WA, QC, QF, QL, QT, BX, BH, BB) →
    wY_run_23 post v1 v2 (nI m) now (nI bs) (nI bf) (d + 1) (nI i) CN (cs_cp BU bs (fun i => (v1 + (v2 * nI i)) &&& 255) i) op FR TO GA TL DU W WT NY KY KO KM KT NU CI LE SP BY LA HA CA WA QC QF QL QT BX BH BB := by
  intro d
  induction d with
  | zero =>
    intro i hi post hp
    have e : i = m := by omega
    subst e
    exact br_t (Int32.le_refl _) (nm_r (nI_add bs i) hp)
  | succ d ih =>
    intro i hi post hp
    refine br_f (nI_ge (by omega) (by omega)) ?_
    rw [nI_add, nI_clamp (show bs + i < 2 ^ 31 by omega)]
    exact ⟨vp_in_nI (by omega) (by decide), nm_r (cs_cp_s BU bs (fun i => (v1 + (v2 * nI i)) &&& 255) i) (nm_r (nI_1 i) (ih (i + 1) (by omega) post hp))⟩
theorem cs_Xrun0 {now : Int32} {bf bs : Nat} {CN FB FZ FC op FR TO GA TL DU W WF NX HD KX KF KS LA TA WA QC QX BX IF : Nat → Int32} {m : Nat} {v1 v2 : Int32} (h1 : bf ≤ 255) (hm : bs + m ≤ 27) (post : Int32 → SX → Prop)
    (hp : post (nI (bs + m)) (now, (nI bf), nI (bs + m), CN, cs_cp FB (27 * bf + bs) (fun i => (v1 + (v2 * nI i)) &&& 255) m, FZ, FC, op, FR, TO, GA, TL, DU, W, WF, NX, HD, KX, KF, KS, LA, TA, WA, QC, QX, BX, IF)) : wX_run_23 post v1 v2 (nI m) (m + 1) 0 now (nI bf) (nI bs) CN FB FZ FC op FR TO GA TL DU W WF NX HD KX KF KS LA TA WA QC QX BX IF := by
  have h := @cs_Xrun now bf bs CN FB FZ FC op FR TO GA TL DU W WF NX HD KX KF KS LA TA WA QC QX BX IF m v1 v2 h1 hm m 0 (by omega) post hp
  rw [cs_cp_0] at h
  exact h
theorem cs_Yrun0 {now : Int32} {bf bs : Nat} {CN BU op FR TO GA TL DU W WT NY KY KO KM KT NU CI LE SP BY LA HA CA WA QC QF QL QT BX BH BB : Nat → Int32} {m : Nat} {v1 v2 : Int32} (hm : bs + m ≤ 27) (post : Int32 → SY → Prop)
    (hp : post (nI (bs + m)) (now, nI (bs + m), (nI bf), CN, cs_cp BU bs (fun i => (v1 + (v2 * nI i)) &&& 255) m, op, FR, TO, GA, TL, DU, W, WT, NY, KY, KO, KM, KT, NU, CI, LE, SP, BY, LA, HA, CA, WA, QC, QF, QL, QT, BX, BH, BB)) : wY_run_23 post v1 v2 (nI m) now (nI bs) (nI bf) (m + 1) 0 CN BU op FR TO GA TL DU W WT NY KY KO KM KT NU CI LE SP BY LA HA CA WA QC QF QL QT BX BH BB := by
  have h := @cs_Yrun now bf bs CN BU op FR TO GA TL DU W WT NY KY KO KM KT NU CI LE SP BY LA HA CA WA QC QF QL QT BX BH BB m v1 v2 hm m 0 (by omega) post hp
  rw [cs_cp_0] at h
  exact h
theorem i_vc_run {k : Nat} {u : SX} {v : SY} (I : i_Rel k u v) (hk : k + 5 ≤ 2560) (v1 : Int32) (v2 : Int32) (v3 : Int32) : wpX_run (fun r u' => wpY_run (fun r' v' => r' = r ∧ i_Rel (k + 5) u' v') v v1 v2 v3) u v1 v2 v3 := by
  have I' := i_up I
  obtain ⟨now, bf, bs, CN, FB, FZ, FC, op, FR, TO, GA, TL, DU, W, WF, NX, HD, KX, KF, KS, LA, TA, WA, QC, QX, BX, IF, BU, WT, NY, KY, KO, KM, KT, NU, CI, LE, SP, BY, HA, CA, QF, QL, QT, BH, BB, rfl, rfl, h1, h2, h3, h4, h5, h6, h7, h8, h9, h10, h11⟩ := I
  unfold wpX_run wpY_run
  dsimp only
  by_cases q1 : 0 ≤ v3
  · obtain ⟨m, hm, rfl⟩ := nI_of (Int32.not_lt.mpr q1)
    have e27 : 27 - nI bs = nI (27 - bs) := pk_sub (a := 27) h2
    rw [e27]
    refine br_t q1 ?_
    by_cases q2 : m ≤ 27 - bs
    · have q2' : nI m ≤ nI (27 - bs) := nI_le q2 (by omega)
      refine br_t q2' ⟨m + 1, cs_Xrun0 h1 (show bs + m ≤ 27 by omega) _ (br_t q1 (br_t q2' ⟨m + 1, cs_Yrun0 (show bs + m ≤ 27 by omega) _ ⟨rfl, ?_⟩⟩))⟩
      refine @cs_refill now bf bs CN FB FZ FC op FR TO GA TL DU W WF NX HD KX KF KS LA TA WA QC QX BX IF BU WT NY KY KO KM KT NU CI LE SP BY HA CA QF QL QT BH BB k _ _ _ h1 h3 h5 h6 h7 h8 h9 h10 h11 (fun j hj => cs_cp_out (by omega)) (by omega) (fun i hi => ?_)
      by_cases e : i < bs
      · rw [cs_cp_out (Or.inl e), cs_cp_out (by omega)]
        exact h4 i e
      · obtain ⟨q, rfl⟩ : ∃ q, i = bs + q := ⟨i - bs, by omega⟩
        rw [cs_cp_in (by omega), ← Nat.add_assoc, cs_cp_in (by omega)]
    · have q2' : ¬ nI m ≤ nI (27 - bs) := nI_ge (by omega) hm
      exact br_f q2' (br_t q1 (br_f q2' ⟨rfl, I'⟩))
  · exact br_f q1 (br_f q1 ⟨rfl, I'⟩)
end
section
def cs_Uw (W WT : Nat → Int32) (q k : Nat) : Prop := ∃ n, n ≤ 2 ∧ W (k / 2) = nI n ∧ k % 2 < n ∧ WT k = nI q
def cs_Uq (QC QF : Nat → Int32) (q k : Nat) : Prop := ∃ n, n ≤ 6 ∧ QC (k / 6) = nI n ∧ k % 6 < n ∧ QF k = nI q
theorem cs_cells {z : Nat} (h : z ≤ 27) : (nI z + 12) / 8 = nI ((z + 12) / 8) := by
  have e := pk_div (a := z + 12) (d := 8) (by omega) (by decide) (by decide)
  rw [← nI_add] at e
  exact e
theorem cs_Xcells {now : Int32} {bf bs : Nat} {CN FB FZ FC op FR TO GA TL DU W WF NX HD KX KF KS LA TA WA QC QX BX IF : Nat → Int32} {f z : Nat} (hf : f < 256) (hz : z ≤ 27) (e : FZ f = nI z) {post : Int32 → Prop} (hp : post (nI ((z + 12) / 8))) : wpX_cellsOf post (now, (nI bf), (nI bs), CN, FB, FZ, FC, op, FR, TO, GA, TL, DU, W, WF, NX, HD, KX, KF, KS, LA, TA, WA, QC, QX, BX, IF) (nI f) := by
  unfold wpX_cellsOf
  dsimp only
  rw [nI_clamp (show f < 2 ^ 31 by omega), e, cs_cells hz]
  exact ⟨vp_in_nI hf (by decide), cs_z8, hp⟩
theorem cs_Ycells {now : Int32} {bf bs : Nat} {CN BU op FR TO GA TL DU W WT NY KY KO KM KT NU CI LE SP BY LA HA CA WA QC QF QL QT BX BH BB : Nat → Int32} {p z : Nat} (hp : p < 64) (hz : z ≤ 27) (e : LE p = nI z) {post : Int32 → Prop} (hq : post (nI ((z + 12) / 8))) : wpY_cellsOf post (now, (nI bs), (nI bf), CN, BU, op, FR, TO, GA, TL, DU, W, WT, NY, KY, KO, KM, KT, NU, CI, LE, SP, BY, LA, HA, CA, WA, QC, QF, QL, QT, BX, BH, BB) (nI p) := by
  unfold wpY_cellsOf
  dsimp only
  rw [nI_clamp (show p < 2 ^ 31 by omega), e, cs_cells hz]
  exact ⟨vp_in_nI hp (by decide), cs_z8, hq⟩
theorem cs_pu2 {now : Int32} {bf bs : Nat} {CN BU op FR TO GA TL DU W WT NY KY KO KM KT NU CI LE SP BY LA HA CA WA QC QF QL QT BX BH BB : Nat → Int32} {q : Nat} (hq : ∀ s, s < 4 → ∃ n, n ≤ 6 ∧ QC s = nI n) : ∀ d j, j + d = 24 → ∃ r : Nat, ((r = 1 ∧ ∃ k, k < 24 ∧ cs_Uq QC QF q k) ∨ (r = 0 ∧ ∀ k, j ≤ k → k < 24 → ¬ cs_Uq QC QF q k)) ∧
    ∀ post : Int32 → Prop, post (nI r) → wY_isPlaceUsed_42 post (nI q) now (nI bs) (nI bf) CN BU op FR TO GA TL DU W WT NY KY KO KM KT NU CI LE SP BY LA HA CA WA QC QF QL QT BX BH BB (d + 1) (nI j) := by
  intro d
  induction d with
  | zero =>
    intro j hj
    have e : j = 24 := by omega
    subst e
    exact ⟨0, Or.inr ⟨rfl, fun k h1 h2 => absurd h2 (by omega)⟩, fun post hp => br_t (Int32.le_refl _) hp⟩
  | succ d ih =>
    intro j hj
    have h24 : ¬ (24 : Int32) ≤ nI j := nI_ge (b := 24) (by omega) (by decide)
    obtain ⟨n, hn, en⟩ := hq (j / 6) (by omega)
    have e6 : nI j / 6 = nI (j / 6) := pk_div (d := 6) (by omega) (by decide) (by decide)
    have r6 : nI j - nI j / 6 * 6 = nI (j % 6) := pk_rem (d := 6) (by omega) (by decide) (by decide)
    have c6 : (nI (j / 6)).toNatClampNeg = j / 6 := nI_clamp (by omega)
    have cj : (nI j).toNatClampNeg = j := nI_clamp (by omega)
    have i6 : vp_in (nI (j / 6)) 4 := vp_in_nI (by omega) (by decide)
    have ij : vp_in (nI j) 24 := vp_in_nI (by omega) (by decide)
    obtain ⟨r, hr, hW⟩ := ih (j + 1) (by omega)
    by_cases u : cs_Uq QC QF q j
    · refine ⟨1, Or.inl ⟨rfl, j, by omega, u⟩, fun post hp => br_f h24 ⟨cs_z6, cs_z6, ?_⟩⟩
      obtain ⟨n', hn', en', hlt, eq⟩ := u
      rw [r6, e6, c6, en', cj, eq]
      exact ⟨i6, br_f (nI_ge hlt (by omega)) ⟨ij, br_t rfl hp⟩⟩
    · refine ⟨r, ?_, fun post hp => br_f h24 ⟨cs_z6, cs_z6, ?_⟩⟩
      · rcases hr with a | ⟨a, b⟩
        · exact Or.inl a
        · refine Or.inr ⟨a, fun k hk hk2 => ?_⟩
          by_cases e : k = j
          · rw [e]; exact u
          · exact b k (by omega) hk2
      · rw [r6, e6, c6, en, cj]
        by_cases hl : n ≤ j % 6
        · exact ⟨i6, br_t (nI_le hl (by omega)) (nm_r (nI_1 j) (hW post hp))⟩
        · have hne : ¬ QF j = nI q := fun z => u ⟨n, hn, en, by omega, z⟩
          exact ⟨i6, br_f (nI_ge (by omega) (by omega)) ⟨ij, br_f hne (nm_r (nI_1 j) (hW post hp))⟩⟩
theorem cs_pu1 {now : Int32} {bf bs : Nat} {CN BU op FR TO GA TL DU W WT NY KY KO KM KT NU CI LE SP BY LA HA CA WA QC QF QL QT BX BH BB : Nat → Int32} {q : Nat} (hw : ∀ c, c < 8 → ∃ n, n ≤ 2 ∧ W c = nI n) (hq : ∀ s, s < 4 → ∃ n, n ≤ 6 ∧ QC s = nI n) : ∀ d j, j + d = 16 →
    ∃ r : Nat, ((r = 1 ∧ ((∃ k, k < 16 ∧ cs_Uw W WT q k) ∨ ∃ k, k < 24 ∧ cs_Uq QC QF q k)) ∨ (r = 0 ∧ (∀ k, j ≤ k → k < 16 → ¬ cs_Uw W WT q k) ∧ ∀ k, k < 24 → ¬ cs_Uq QC QF q k)) ∧
    ∀ post : Int32 → Prop, post (nI r) → wY_isPlaceUsed_2 post (nI q) now (nI bs) (nI bf) CN BU op FR TO GA TL DU W WT NY KY KO KM KT NU CI LE SP BY LA HA CA WA QC QF QL QT BX BH BB (d + 1) (nI j) := by
  intro d
  induction d with
  | zero =>
    intro j hj
    have e : j = 16 := by omega
    subst e
    obtain ⟨r, hr, hW⟩ := @cs_pu2 now bf bs CN BU op FR TO GA TL DU W WT NY KY KO KM KT NU CI LE SP BY LA HA CA WA QC QF QL QT BX BH BB q hq 24 0 (by omega)
    refine ⟨r, ?_, fun post hp => br_t (Int32.le_refl _) ⟨25, hW post hp⟩⟩
    rcases hr with ⟨a, b⟩ | ⟨a, b⟩
    · exact Or.inl ⟨a, Or.inr b⟩
    · exact Or.inr ⟨a, fun k h1 h2 => absurd h2 (by omega), fun k h => b k (by omega) h⟩
  | succ d ih =>
    intro j hj
    have h24 : ¬ (16 : Int32) ≤ nI j := nI_ge (b := 16) (by omega) (by decide)
    obtain ⟨n, hn, en⟩ := hw (j / 2) (by omega)
    have e6 : nI j / 2 = nI (j / 2) := pk_div (d := 2) (by omega) (by decide) (by decide)
    have r6 : nI j - nI j / 2 * 2 = nI (j % 2) := pk_rem (d := 2) (by omega) (by decide) (by decide)
    have c6 : (nI (j / 2)).toNatClampNeg = j / 2 := nI_clamp (by omega)
    have cj : (nI j).toNatClampNeg = j := nI_clamp (by omega)
    have i6 : vp_in (nI (j / 2)) 8 := vp_in_nI (by omega) (by decide)
    have ij : vp_in (nI j) 16 := vp_in_nI (by omega) (by decide)
    obtain ⟨r, hr, hW⟩ := ih (j + 1) (by omega)
    by_cases u : cs_Uw W WT q j
    · refine ⟨1, Or.inl ⟨rfl, Or.inl ⟨j, by omega, u⟩⟩, fun post hp => br_f h24 ⟨cs_z2, cs_z2, ?_⟩⟩
      obtain ⟨n', hn', en', hlt, eq⟩ := u
      rw [r6, e6, c6, en', cj, eq]
      exact ⟨i6, br_f (nI_ge hlt (by omega)) ⟨ij, br_t rfl hp⟩⟩
    · refine ⟨r, ?_, fun post hp => br_f h24 ⟨cs_z2, cs_z2, ?_⟩⟩
      · rcases hr with a | ⟨a, b, b'⟩
        · exact Or.inl a
        · refine Or.inr ⟨a, fun k hk hk2 => ?_, b'⟩
          by_cases e : k = j
          · rw [e]; exact u
          · exact b k (by omega) hk2
      · rw [r6, e6, c6, en, cj]
        by_cases hl : n ≤ j % 2
        · exact ⟨i6, br_t (nI_le hl (by omega)) (nm_r (nI_1 j) (hW post hp))⟩
        · have hne : ¬ WT j = nI q := fun z => u ⟨n, hn, en, by omega, z⟩
          exact ⟨i6, br_f (nI_ge (by omega) (by omega)) ⟨ij, br_f hne (nm_r (nI_1 j) (hW post hp))⟩⟩
theorem cs_used {now : Int32} {bf bs : Nat} {CN BU op FR TO GA TL DU W WT NY KY KO KM KT NU CI LE SP BY LA HA CA WA QC QF QL QT BX BH BB : Nat → Int32} (q : Nat) (hw : ∀ c, c < 8 → ∃ n, n ≤ 2 ∧ W c = nI n) (hq : ∀ s, s < 4 → ∃ n, n ≤ 6 ∧ QC s = nI n) :
    ∃ r : Nat, ((r = 1 ∧ ((∃ k, k < 16 ∧ cs_Uw W WT q k) ∨ ∃ k, k < 24 ∧ cs_Uq QC QF q k)) ∨ (r = 0 ∧ (∀ k, k < 16 → ¬ cs_Uw W WT q k) ∧ ∀ k, k < 24 → ¬ cs_Uq QC QF q k)) ∧
    ∀ post : Int32 → Prop, post (nI r) → wpY_isPlaceUsed post (now, (nI bs), (nI bf), CN, BU, op, FR, TO, GA, TL, DU, W, WT, NY, KY, KO, KM, KT, NU, CI, LE, SP, BY, LA, HA, CA, WA, QC, QF, QL, QT, BX, BH, BB) (nI q) := by
  obtain ⟨r, hr, hW⟩ := @cs_pu1 now bf bs CN BU op FR TO GA TL DU W WT NY KY KO KM KT NU CI LE SP BY LA HA CA WA QC QF QL QT BX BH BB q hw hq 16 0 (by omega)
  refine ⟨r, ?_, fun post hp => ⟨17, hW post hp⟩⟩
  rcases hr with a | ⟨a, b, b'⟩
  · exact Or.inl a
  · exact Or.inr ⟨a, fun k hk => b k (by omega) hk, b'⟩
theorem cs_pcopy {now : Int32} {bf bs : Nat} {CN BU op FR TO GA TL DU W WT NY KY KO KM KT NU CI LE SP BY LA HA CA WA QC QF QL QT BX BH BB : Nat → Int32} {q c w : Nat} {fr : Int32} (hbs : bs ≤ 27) (hq : q < 64) (hc : c < 8) (hw : w < 2) (hW : W c = nI w) (hL : LE q = nI bs) : ∀ d i, i + d = bs → ∀ post : Int32 → SY → Prop,
    post (nI ((bs + 12) / 8)) (now, 0, fr, CN, BU, op, FR, TO, GA, TL, DU, upd W c (nI (w + 1)), upd WT (2 * c + w) (nI q), NY, KY, KO, KM, KT, NU, CI, LE, SP, cs_cp BY (27 * q) BU bs, LA, HA, CA, WA, QC, QF, QL, QT, BX, BH, BB) →
    wY_post_104 post (nI c) (nI q) now (nI bs) fr (d + 1) (nI i) CN BU op FR TO GA TL DU W WT NY KY KO KM KT NU CI LE SP (cs_cp BY (27 * q) BU i) LA HA CA WA QC QF QL QT BX BH BB := by
  intro d
  induction d with
  | zero =>
    intro i hi post hp
    have e : i = bs := by omega
    subst e
    refine br_t (Int32.le_refl _) ?_
    have ic : vp_in (nI c) 8 := vp_in_nI hc (by decide)
    rw [cs_2m, nI_clamp (show c < 2 ^ 31 by omega), hW, nI_add, nI_clamp (show 2 * c + w < 2 ^ 31 by omega), nI_1 w]
    refine ⟨ic, vp_in_nI (by omega) (by decide), nm_e ⟨ic, ic, nm_e ?_⟩⟩
    unfold wpY_cellsOf
    dsimp only
    rw [nI_clamp (show q < 2 ^ 31 by omega), hL, cs_cells hbs]
    exact ⟨vp_in_nI hq (by decide), cs_z8, hp⟩
  | succ d ih =>
    intro i hi post hp
    refine br_f (nI_ge (by omega) (by omega)) ?_
    rw [cs_27m, nI_add, nI_clamp (show 27 * q + i < 2 ^ 31 by omega), nI_clamp (show i < 2 ^ 31 by omega)]
    exact ⟨vp_in_nI (by omega) (by decide), vp_in_nI (by omega) (by decide), nm_r (cs_cp_s BY (27 * q) BU i) (nm_r (nI_1 i) (ih (i + 1) (by omega) post hp))⟩
theorem cs_pcopy0 {now : Int32} {bf bs : Nat} {CN BU op FR TO GA TL DU W WT NY KY KO KM KT NU CI LE SP BY LA HA CA WA QC QF QL QT BX BH BB : Nat → Int32} {q c w : Nat} {fr : Int32} (hbs : bs ≤ 27) (hq : q < 64) (hc : c < 8) (hw : w < 2) (hW : W c = nI w) (hL : LE q = nI bs) (post : Int32 → SY → Prop)
    (hp : post (nI ((bs + 12) / 8)) (now, 0, fr, CN, BU, op, FR, TO, GA, TL, DU, upd W c (nI (w + 1)), upd WT (2 * c + w) (nI q), NY, KY, KO, KM, KT, NU, CI, LE, SP, cs_cp BY (27 * q) BU bs, LA, HA, CA, WA, QC, QF, QL, QT, BX, BH, BB)) :
    wY_post_104 post (nI c) (nI q) now (nI bs) fr (bs + 1) 0 CN BU op FR TO GA TL DU W WT NY KY KO KM KT NU CI LE SP BY LA HA CA WA QC QF QL QT BX BH BB := by
  have h := @cs_pcopy now bf bs CN BU op FR TO GA TL DU W WT NY KY KO KM KT NU CI LE SP BY LA HA CA WA QC QF QL QT BX BH BB q c w fr hbs hq hc hw hW hL bs 0 (by omega) post hp
  rw [cs_cp_0] at h
  exact h
theorem cs_Ypost {now : Int32} {bf bs : Nat} {CN BU op FR TO GA TL DU W WT NY KY KO KM KT NU CI LE SP BY LA HA CA WA QC QF QL QT BX BH BB : Nat → Int32} {c w p0 : Nat} (hbs : bs ≤ 27) (hc : c < 8) (hw2 : w < 2) (hW : W c = nI w) (hw : ∀ c, c < 8 → ∃ n, n ≤ 2 ∧ W c = nI n) (hq : ∀ s, s < 4 → ∃ n, n ≤ 6 ∧ QC s = nI n)
    (hp0 : p0 < 64) (hf1 : ∀ k, k < 16 → ¬ cs_Uw W WT p0 k) (hf2 : ∀ k, k < 24 → ¬ cs_Uq QC QF p0 k) : ∀ d q, q + d = p0 →
    ∃ q', q' < 64 ∧ (∀ k, k < 16 → ¬ cs_Uw W WT q' k) ∧ (∀ k, k < 24 → ¬ cs_Uq QC QF q' k) ∧ ∀ post : Int32 → SY → Prop,
    post (nI ((bs + 12) / 8)) (now, 0, nI (bf + 1), CN, BU, op, FR, TO, GA, TL, DU, upd W c (nI (w + 1)), upd WT (2 * c + w) (nI q'), NY, KY, KO, KM, KT, upd NU q' (nI (bf + 1)), upd CI q' (nI c), upd LE q' (nI bs), upd SP q' 0, cs_cp BY (27 * q') BU bs, LA, HA, CA, WA, QC, QF, QL, QT, BX, BH, BB) →
    wY_post_44 post (nI c) now (nI bs) (nI bf) CN BU op FR TO GA TL DU W WT NY KY KO KM KT NU CI LE SP BY LA HA CA WA QC QF QL QT BX BH BB (d + 1) (nI q) := by
  intro d
  induction d with
  | zero =>
    intro q hqd
    obtain ⟨r, hr, hU⟩ := @cs_used now bf bs CN BU op FR TO GA TL DU W WT NY KY KO KM KT NU CI LE SP BY LA HA CA WA QC QF QL QT BX BH BB q hw hq
    have e : q = p0 := by omega
    subst e
    rcases hr with ⟨_, a | a⟩ | ⟨a, b, b'⟩
    · obtain ⟨k, hk, a⟩ := a
      exact absurd a (hf1 k hk)
    · obtain ⟨k, hk, a⟩ := a
      exact absurd a (hf2 k hk)
    · subst a
      refine ⟨q, hp0, b, b', fun post hp => ?_⟩
      have iq : vp_in (nI q) 64 := vp_in_nI hp0 (by decide)
      unfold wY_post_44
      refine hU _ (br_t rfl (nm_r (nI_1 bf) ⟨iq, nm_e ⟨iq, nm_e ⟨iq, nm_e ⟨iq, nm_e ⟨bs + 1, ?_⟩⟩⟩⟩⟩))
      rw [nI_clamp (show q < 2 ^ 31 by omega), cs_b0]
      exact cs_pcopy0 (bf := bf) hbs hp0 hc hw2 hW pk_us post hp
  | succ d ih =>
    intro q hqd
    obtain ⟨r, hr, hU⟩ := @cs_used now bf bs CN BU op FR TO GA TL DU W WT NY KY KO KM KT NU CI LE SP BY LA HA CA WA QC QF QL QT BX BH BB q hw hq
    rcases hr with ⟨a, _⟩ | ⟨a, b, b'⟩
    · subst a
      obtain ⟨q', g1, g2, g3, g4⟩ := ih (q + 1) (by omega)
      refine ⟨q', g1, g2, g3, fun post hp => ?_⟩
      unfold wY_post_44
      exact hU _ (br_f cs_10 (nm_r (nI_1 q) (g4 post hp)))
    · subst a
      have hq64 : q < 64 := by omega
      refine ⟨q, hq64, b, b', fun post hp => ?_⟩
      have iq : vp_in (nI q) 64 := vp_in_nI hq64 (by decide)
      unfold wY_post_44
      refine hU _ (br_t rfl (nm_r (nI_1 bf) ⟨iq, nm_e ⟨iq, nm_e ⟨iq, nm_e ⟨iq, nm_e ⟨bs + 1, ?_⟩⟩⟩⟩⟩))
      rw [nI_clamp (show q < 2 ^ 31 by omega), cs_b0]
      exact cs_pcopy0 (bf := bf) hbs hq64 hc hw2 hW pk_us post hp
theorem i_vc_post {k : Nat} {u : SX} {v : SY} (I : i_Rel k u v) (hk : k + 5 ≤ 2560) (v1 : Int32) : wpX_post (fun r u' => wpY_post (fun r' v' => r' = r ∧ i_Rel (k + 5) u' v') v v1) u v1 := by
  have I' := i_up I
  obtain ⟨now, bf, bs, CN, FB, FZ, FC, op, FR, TO, GA, TL, DU, W, WF, NX, HD, KX, KF, KS, LA, TA, WA, QC, QX, BX, IF, BU, WT, NY, KY, KO, KM, KT, NU, CI, LE, SP, BY, HA, CA, QF, QL, QT, BH, BB, rfl, rfl, h1, h2, h3, h4, h5, h6, h7, h8, h9, h10, h11⟩ := I
  unfold wpX_post wpY_post
  dsimp only
  rcases cs_circ v1 with ⟨hX, hY⟩ | ⟨c, hc, rfl, hX, hY⟩
  · exact hX _ (br_t rfl (hY _ _ (br_f cs_10 ⟨rfl, I'⟩)))
  have hi : vp_in (nI c) 8 := vp_in_nI hc (by decide)
  have ec : (nI c).toNatClampNeg = c := nI_clamp (by omega)
  rw [ec]
  refine hX _ (br_f cs_10 ⟨hi, ?_⟩)
  by_cases qo : op c = 0
  · exact br_t qo (hY _ _ (br_t rfl ⟨hi, br_t qo ⟨rfl, I'⟩⟩))
  refine br_f qo ?_
  by_cases qb : bs = 0
  · subst qb
    exact br_t rfl (hY _ _ (br_t rfl ⟨hi, br_f qo (br_t rfl ⟨rfl, I'⟩)⟩))
  have qb' : ¬ nI bs = 0 := nI_ne0 (by omega) (by omega)
  refine br_f qb' ⟨hi, ?_⟩
  obtain ⟨w, hw2, hW⟩ := cs_W_val h5 hc
  by_cases qw : w = 2
  · subst qw
    exact br_t hW (hY _ _ (br_t rfl ⟨hi, br_f qo (br_f qb' ⟨hi, br_t hW ⟨rfl, I'⟩⟩)⟩))
  have qw' : ¬ W c = 2 := fun z => qw (cs_nI_inj (b := 2) (by omega) (by decide) (hW.symm.trans z))
  have hbf : vp_in (nI bf) 256 := vp_in_nI (by omega) (by decide)
  have ebf : (nI bf).toNatClampNeg = bf := nI_clamp (by omega)
  obtain ⟨hbf1, hN⟩ := cs_N_post h3 hk hc qo (by omega)
  have er : nI bf + 1 - (nI bf + 1) / 256 * 256 = nI (bf + 1) := by
    have e := pk_rem (a := bf + 1) (d := 256) (by omega) (by decide) (by decide)
    rw [Nat.mod_eq_of_lt (by omega), ← nI_1] at e
    rw [← nI_1]
    exact e
  have hwv : ∀ c, c < 8 → ∃ n, n ≤ 2 ∧ W c = nI n := fun c hc => cs_W_val h5 hc
  have hqv : ∀ s, s < 4 → ∃ n, n ≤ 6 ∧ QC s = nI n := fun s hs => by
    obtain ⟨n, a, b, _⟩ := h7 s hs
    exact ⟨n, a, b⟩
  obtain ⟨p0, hp0, hf⟩ := cs_pig 40 (fun i => if i < 16 then (WT i).toNatClampNeg else (QF (i - 16)).toNatClampNeg)
  have hf1 : ∀ k, k < 16 → ¬ cs_Uw W WT p0 k := by
    intro j hj ⟨n, _, _, _, e⟩
    have := hf j (by omega)
    rw [if_pos hj, e, nI_clamp (by omega)] at this
    exact this rfl
  have hf2 : ∀ k, k < 24 → ¬ cs_Uq QC QF p0 k := by
    intro j hj ⟨n, _, _, _, e⟩
    have := hf (16 + j) (by omega)
    rw [if_neg (by omega), Nat.add_sub_cancel_left, e, nI_clamp (by omega)] at this
    exact this rfl
  obtain ⟨q, hq64, hU1, hU2, hP⟩ := @cs_Ypost now bf bs CN BU op FR TO GA TL DU W WT NY KY KO KM KT NU CI LE SP BY LA HA CA WA QC QF QL QT BX BH BB c w p0 h2 hc (by omega) hW hwv hqv (by omega) hf1 hf2 p0 0 (by omega)
  refine br_f qw' ?_
  rw [ebf, er, hW, cs_m2, nI_add, nI_clamp (show 2 * c + w < 2 ^ 31 by omega), nI_1 w]
  refine ⟨hbf, nm_e ⟨hbf, nm_e ⟨hi, vp_in_nI (by omega) (by decide), nm_e ⟨hi, hi, nm_e ⟨cs_z256, nm_e ?_⟩⟩⟩⟩⟩
  unfold wpX_cellsOf
  dsimp only
  rw [ebf, pk_us, cs_cells h2]
  refine ⟨hbf, cs_z8, hY _ _ (br_t rfl ⟨hi, br_f qo (br_f qb' ⟨hi, br_f ?_ ⟨p0 + 1, hP _ ⟨rfl, ?_⟩⟩⟩)⟩)⟩
  · rw [hW] at qw'
    exact qw'
  have hold : ∀ f p d z, cs_FP bf FC FZ FB NU CI LE BY f p d z → p ≠ q → cs_FP (bf + 1) (upd FC bf (nI c)) (upd FZ bf (nI bs)) FB (upd NU q (nI (bf + 1))) (upd CI q (nI c)) (upd LE q (nI bs)) (cs_cp BY (27 * q) BU bs) f p d z :=
    fun f p d z h hn => cs_FP_old h2 h hn
  refine cs_mk (bf := bf + 1) (bs := 0) hbf1 (by omega) hN (fun i hi => absurd hi (by omega)) ?_ h6 ?_ ?_ h9 h10 h11
  · refine cs_W_post h5 hc qo (by omega) hW (bs := bs) (by omega) (by omega) (fun f p d z h => ⟨h.2.1, h.1⟩) (fun d j n hd hn e hj z => ?_) hold (cs_FP_new h2 (by omega) hc hq64 h4)
    refine hU1 (2 * d + j) (by omega) ⟨n, hn, ?_, by omega, z⟩
    rw [show (2 * d + j) / 2 = d by omega]
    exact e
  · refine cs_Q_post h7 (fun s i n hs hn e hi z => ?_) hold
    refine hU2 (6 * s + i) (by omega) ⟨n, hn, ?_, by omega, z⟩
    rw [show (6 * s + i) / 6 = s by omega]
    exact e
  · exact cs_I_fb h8 (by omega) (fun f hf => pk_un (by omega)) (fun f hf => pk_un (by omega)) (fun _ _ => rfl)
end
section
theorem cs_and2 : ∀ f, f < 256 → ∀ l, l < 2 → ∀ t, t < 2 → nI (4 * f + 2 * l + t) &&& 2 = nI (2 * l) := by decide +kernel
theorem cs_and1 : ∀ f, f < 256 → ∀ l, l < 2 → ∀ t, t < 2 → nI (4 * f + 2 * l + t) &&& 1 = nI t := by decide +kernel
theorem cs_shl : ∀ f, f < 256 → nI f <<< ((2 : Int32) &&& 31) = nI (4 * f) := by decide +kernel
theorem cs_shr {f l t : Nat} (hf : f < 256) (hl : l ≤ 1) (ht : t ≤ 1) : nI (4 * f + 2 * l + t) >>> ((2 : Int32) &&& 31) = nI f := by
  rw [pk_shrN (by omega) _ 2 (by decide)]
  exact congrArg nI (by omega)
theorem cs_ne2 {n : Nat} (h : n < 2 ^ 31) : ¬ nI n = -2 := fun z => nI_pos h (by rw [z]; decide)
theorem cs_Xbusy {now : Int32} {bf bs : Nat} {CN FB FZ FC op FR TO GA TL DU W WF NX HD KX KF KS LA TA WA QC QX BX IF BU WT NY KY KO KM KT NU CI LE SP BY HA CA QF QL QT BH BB : Nat → Int32} {c to n : Nat} (h1 : bf ≤ 255) (hto : to < 4) (hn : n ≤ 6) (en : QC to = nI n) (hs : ∀ i, i < n → cs_Qs (cs_FP bf FC FZ FB NU CI LE BY) op TO QX QF QL QT to (6 * to + i)) :
    ∀ d i, i + d = n → ∃ r : Nat, ((r = 1 ∧ ∃ j, j < n ∧ CI (QF (6 * to + j)).toNatClampNeg = nI c) ∨ (r = 0 ∧ ∀ j, i ≤ j → j < n → CI (QF (6 * to + j)).toNatClampNeg ≠ nI c)) ∧
    ∀ post : Int32 → Prop, post (nI r) → wX_hasCellInQueue_9 post (nI c) (nI to) now (nI bf) (nI bs) CN FB FZ FC op FR TO GA TL DU W WF NX HD KX KF KS LA TA WA QC QX BX IF (d + 1) (nI i) := by
  have it : vp_in (nI to) 4 := vp_in_nI hto (by decide)
  have et : (nI to).toNatClampNeg = to := nI_clamp (by omega)
  intro d
  induction d with
  | zero =>
    intro i hi
    have e : i = n := by omega
    subst e
    refine ⟨0, Or.inr ⟨rfl, fun j h1 h2 => absurd h2 (by omega)⟩, fun post hp => ⟨it, ?_⟩⟩
    rw [et, en]
    exact br_t (Int32.le_refl _) hp
  | succ d ih =>
    intro i hi
    obtain ⟨r, hr, hW⟩ := ih (i + 1) (by omega)
    obtain ⟨f, p, c', z, l, t, a1, a2, a3, a4, a5, a6, a7, a8, a9⟩ := hs i (by omega)
    obtain ⟨b1, b2, b3, b4, b5, b6, b7, b8, b9⟩ := a7
    have ep : (QF (6 * to + i)).toNatClampNeg = p := by rw [a2, nI_clamp (by omega)]
    have e6 : nI to * 6 + nI i = nI (6 * to + i) := by rw [cs_m6, nI_add]
    have hlt : ¬ nI n ≤ nI i := nI_ge (by omega) (by omega)
    have i6 : vp_in (nI (6 * to + i)) 24 := vp_in_nI (by omega) (by decide)
    have e6c : (nI (6 * to + i)).toNatClampNeg = 6 * to + i := nI_clamp (by omega)
    have hf : vp_in (nI f) 256 := vp_in_nI (by omega) (by decide)
    have efc : FC (nI f).toNatClampNeg = nI c' := by rw [nI_clamp (by omega)]; exact b7
    by_cases u : c' = c
    · subst u
      refine ⟨1, Or.inl ⟨rfl, i, by omega, by rw [ep]; exact b8⟩, fun post hp => ⟨it, ?_⟩⟩
      rw [et, en, e6, e6c, a1, cs_shr (by omega) a5 a6]
      exact br_f hlt ⟨i6, nm_e ⟨hf, br_t efc hp⟩⟩
    · have hne : ¬ nI c' = nI c ∨ 2 ^ 31 ≤ c := by
        by_cases hc : c < 2 ^ 31
        · exact Or.inl fun z => u (cs_nI_inj (by omega) hc z)
        · exact Or.inr (by omega)
      by_cases hc : nI c' = nI c
      · refine ⟨1, Or.inl ⟨rfl, i, by omega, by rw [ep, b8]; exact hc⟩, fun post hp => ⟨it, ?_⟩⟩
        rw [et, en, e6, e6c, a1, cs_shr (by omega) a5 a6]
        exact br_f hlt ⟨i6, nm_e ⟨hf, br_t (efc.trans hc) hp⟩⟩
      · refine ⟨r, ?_, fun post hp => ⟨it, ?_⟩⟩
        · rcases hr with a | ⟨a, b⟩
          · exact Or.inl a
          · refine Or.inr ⟨a, fun j hj hj2 => ?_⟩
            by_cases e : j = i
            · rw [e, ep, b8]; exact hc
            · exact b j (by omega) hj2
        · rw [et, en, e6, e6c, a1, cs_shr (by omega) a5 a6]
          exact br_f hlt ⟨i6, nm_e ⟨hf, br_f (by rw [efc]; exact hc) (nm_r (nI_1 i) (hW post hp))⟩⟩
def cs_Hk (QC QF CI : Nat → Int32) (c k : Nat) : Prop := ∃ n, n ≤ 6 ∧ QC (k / 6) = nI n ∧ k % 6 < n ∧ CI (QF k).toNatClampNeg = nI c
theorem cs_Yclose {now : Int32} {bf bs : Nat} {CN FB FZ FC op FR TO GA TL DU W WF NX HD KX KF KS LA TA WA QC QX BX IF BU WT NY KY KO KM KT NU CI LE SP BY HA CA QF QL QT BH BB : Nat → Int32} {c : Nat} (hc : c < 8) (h7 : cs_Q (cs_FP bf FC FZ FB NU CI LE BY) op TO QC QX QF QL QT) : ∀ d j, j + d = 24 →
    ((∃ k, j ≤ k ∧ k < 24 ∧ cs_Hk QC QF CI c k) → ∀ post : Int32 → SY → Prop, post (-4) (now, (nI bs), (nI bf), CN, BU, op, FR, TO, GA, TL, DU, W, WT, NY, KY, KO, KM, KT, NU, CI, LE, SP, BY, LA, HA, CA, WA, QC, QF, QL, QT, BX, BH, BB) → wY_close_24 post (nI c) now (nI bs) (nI bf) CN BU op FR TO GA TL DU W WT NY KY KO KM KT NU CI LE SP BY LA HA CA WA QC QF QL QT BX BH BB (d + 1) (nI j)) ∧
    ((∀ k, j ≤ k → k < 24 → ¬ cs_Hk QC QF CI c k) → ∀ post : Int32 → SY → Prop, post (W c) (now, (nI bs), (nI bf), CN, BU, upd op c 0, FR, TO, GA, TL, DU, upd W c 0, WT, NY, KY, KO, KM, KT, NU, CI, LE, SP, BY, LA, HA, CA, WA, QC, QF, QL, QT, BX, BH, BB) → wY_close_24 post (nI c) now (nI bs) (nI bf) CN BU op FR TO GA TL DU W WT NY KY KO KM KT NU CI LE SP BY LA HA CA WA QC QF QL QT BX BH BB (d + 1) (nI j)) := by
  have ic : vp_in (nI c) 8 := vp_in_nI hc (by decide)
  have ec : (nI c).toNatClampNeg = c := nI_clamp (by omega)
  intro d
  induction d with
  | zero =>
    intro j hj
    have e : j = 24 := by omega
    subst e
    refine ⟨fun ⟨k, h1, h2, _⟩ => absurd h1 (by omega), fun _ post hp => br_t (Int32.le_refl _) ?_⟩
    rw [ec, cs_b0]
    exact ⟨ic, nm_e ⟨ic, nm_e ⟨ic, nm_e hp⟩⟩⟩
  | succ d ih =>
    intro j hj
    obtain ⟨ih1, ih2⟩ := ih (j + 1) (by omega)
    have h24 : ¬ (24 : Int32) ≤ nI j := nI_ge (b := 24) (by omega) (by decide)
    obtain ⟨n, hn, en, hs⟩ := h7 (j / 6) (by omega)
    have e6 : nI j / 6 = nI (j / 6) := pk_div (d := 6) (by omega) (by decide) (by decide)
    have r6 : nI j - nI j / 6 * 6 = nI (j % 6) := pk_rem (d := 6) (by omega) (by decide) (by decide)
    have c6 : (nI (j / 6)).toNatClampNeg = j / 6 := nI_clamp (by omega)
    have cj : (nI j).toNatClampNeg = j := nI_clamp (by omega)
    have i6 : vp_in (nI (j / 6)) 4 := vp_in_nI (by omega) (by decide)
    have ij : vp_in (nI j) 24 := vp_in_nI (by omega) (by decide)
    have hp64 : j % 6 < n → vp_in (QF j) 64 := by
      intro hl
      obtain ⟨f, p, c', z, l, t, a1, a2, a3, a4, a5, a6, a7, a8, a9⟩ := hs (j % 6) hl
      rw [show 6 * (j / 6) + j % 6 = j by omega] at a2
      rw [a2]
      exact vp_in_nI a7.1 (by decide)
    have step : ∀ post : Int32 → SY → Prop, ¬ cs_Hk QC QF CI c j → wY_close_24 post (nI c) now (nI bs) (nI bf) CN BU op FR TO GA TL DU W WT NY KY KO KM KT NU CI LE SP BY LA HA CA WA QC QF QL QT BX BH BB (d + 1) (nI (j + 1)) → wY_close_24 post (nI c) now (nI bs) (nI bf) CN BU op FR TO GA TL DU W WT NY KY KO KM KT NU CI LE SP BY LA HA CA WA QC QF QL QT BX BH BB (d + 1 + 1) (nI j) := by
      intro post u hW
      refine br_f h24 ⟨cs_z6, cs_z6, ?_⟩
      rw [r6, e6, c6, en, cj]
      by_cases hl : n ≤ j % 6
      · exact ⟨i6, br_t (nI_le hl (by omega)) (nm_r (nI_1 j) hW)⟩
      · have hne : ¬ CI (QF j).toNatClampNeg = nI c := fun z => u ⟨n, hn, en, by omega, z⟩
        exact ⟨i6, br_f (nI_ge (by omega) (by omega)) ⟨ij, hp64 (by omega), br_f hne (nm_r (nI_1 j) hW)⟩⟩
    refine ⟨fun ⟨k, g1, g2, g3⟩ post hp => ?_, fun hno post hp => step post (hno j (by omega) (by omega)) (ih2 (fun k h1 h2 => hno k (by omega) h2) post hp)⟩
    by_cases u : cs_Hk QC QF CI c j
    · obtain ⟨n', hn', en', hl, ee⟩ := u
      have enn : n' = n := cs_nI_inj (by omega) (by omega) (en'.symm.trans en)
      subst enn
      refine br_f h24 ⟨cs_z6, cs_z6, ?_⟩
      rw [r6, e6, c6, en, cj]
      exact ⟨i6, br_f (nI_ge (by omega) (by omega)) ⟨ij, hp64 hl, br_t ee hp⟩⟩
    · refine step post u (ih1 ⟨k, ?_, g2, g3⟩ post hp)
      by_cases e : k = j
      · rw [e] at g3
        exact absurd g3 u
      · omega
theorem i_vc_close {k : Nat} {u : SX} {v : SY} (I : i_Rel k u v) (hk : k + 5 ≤ 2560) (v1 : Int32) : wpX_close (fun r u' => wpY_close (fun r' v' => r' = r ∧ i_Rel (k + 5) u' v') v v1) u v1 := by
  have I' := i_up I
  obtain ⟨now, bf, bs, CN, FB, FZ, FC, op, FR, TO, GA, TL, DU, W, WF, NX, HD, KX, KF, KS, LA, TA, WA, QC, QX, BX, IF, BU, WT, NY, KY, KO, KM, KT, NU, CI, LE, SP, BY, HA, CA, QF, QL, QT, BH, BB, rfl, rfl, h1, h2, h3, h4, h5, h6, h7, h8, h9, h10, h11⟩ := I
  unfold wpX_close wpY_close
  dsimp only
  rcases cs_circ v1 with ⟨hX, hY⟩ | ⟨c, hc, rfl, hX, hY⟩
  · exact hX _ (br_t rfl (hY _ _ (br_f cs_10 ⟨rfl, I'⟩)))
  have hi : vp_in (nI c) 8 := vp_in_nI hc (by decide)
  have ec : (nI c).toNatClampNeg = c := nI_clamp (by omega)
  rw [ec]
  refine hX _ (br_f cs_10 ⟨hi, ?_⟩)
  by_cases qo : op c = 0
  · exact br_t qo (hY _ _ (br_t rfl ⟨hi, br_t qo ⟨rfl, I'⟩⟩))
  refine br_f qo ?_
  obtain ⟨to, hto, eto⟩ := h11 c hc
  obtain ⟨n, hn, en, hs⟩ := h7 to hto
  obtain ⟨r, hr, hB⟩ := @cs_Xbusy now bf bs CN FB FZ FC op FR TO GA TL DU W WF NX HD KX KF KS LA TA WA QC QX BX IF BU WT NY KY KO KM KT NU CI LE SP BY HA CA QF QL QT BH BB c to n h1 hto hn en hs n 0 (by omega)
  have hb : ∀ post : Int32 → Prop, post (nI r) → wpX_hasCellInQueue post (now, (nI bf), (nI bs), CN, FB, FZ, FC, op, FR, TO, GA, TL, DU, W, WF, NX, HD, KX, KF, KS, LA, TA, WA, QC, QX, BX, IF) (nI c) := by
    intro post hp
    unfold wpX_hasCellInQueue
    dsimp only
    rw [ec]
    exact ⟨hi, nm_r eto ⟨n + 1, hB post hp⟩⟩
  obtain ⟨hC1, hC2⟩ := @cs_Yclose now bf bs CN FB FZ FC op FR TO GA TL DU W WF NX HD KX KF KS LA TA WA QC QX BX IF BU WT NY KY KO KM KT NU CI LE SP BY HA CA QF QL QT BH BB c hc h7 24 0 (by omega)
  refine hb _ ?_
  rcases hr with ⟨er, j, hj, ej⟩ | ⟨er, hno⟩
  · subst er
    refine br_f cs_10 (hY _ _ (br_t rfl ⟨hi, br_f qo ⟨25, hC1 ⟨6 * to + j, by omega, by omega, n, hn, ?_, by omega, ej⟩ _ ⟨rfl, I'⟩⟩⟩))
    rw [show (6 * to + j) / 6 = to by omega]
    exact en
  · subst er
    refine br_t rfl ⟨hi, nm_e ⟨hi, nm_e ⟨hi, nm_e ?_⟩⟩⟩
    unfold wpX_startNextFrame
    dsimp only
    rw [ec]
    refine ⟨hi, nm_e ⟨hi, nm_e ?_⟩⟩
    unfold wpX_keepNothing
    dsimp only
    rw [ec]
    refine ⟨hi, nm_e ⟨hi, nm_e ?_⟩⟩
    refine hY _ _ (br_t rfl ⟨hi, br_f qo ⟨25, hC2 (fun q _ hq ⟨n', hn', en', hl, ee⟩ => ?_) _ ⟨rfl, ?_⟩⟩⟩)
    · obtain ⟨n2, hn2, en2, hs2⟩ := h7 (q / 6) (by omega)
      have e2 : n' = n2 := cs_nI_inj (by omega) (by omega) (en'.symm.trans en2)
      subst e2
      obtain ⟨f, p, c', z, l, t, a1, a2, a3, a4, a5, a6, a7, a8, a9⟩ := hs2 (q % 6) hl
      rw [show 6 * (q / 6) + q % 6 = q by omega] at a2
      obtain ⟨b1, b2, b3, b4, b5, b6, b7, b8, b9⟩ := a7
      have ee' := ee
      rw [a2, nI_clamp (by omega), b8] at ee'
      have ecc : c' = c := cs_nI_inj (by omega) (by omega) ee'
      rw [ecc, eto] at a9
      have eq6 : to = q / 6 := cs_nI_inj (by omega) (by omega) a9
      have enn : n = n' := cs_nI_inj (by omega) (by omega) (en.symm.trans (by rw [eq6]; exact en'))
      refine hno (q % 6) (by omega) (by omega) ?_
      rw [show 6 * to + q % 6 = q by omega]
      exact ee
    · rw [cs_b0]
      refine cs_mk h1 h2 (cs_N_up (cs_N_end h3) (by omega)) h4 (cs_W_end h5) (cs_K_end h6) (cs_Q_end h7 eto hto ?_) h8 h9 h10 h11
      intro n' hn' en' i hi'
      have enn : n = n' := cs_nI_inj (by omega) (by omega) (en.symm.trans en')
      exact hno i (by omega) (by omega)
theorem cs_mu_IF {now : Int32} {bf bs : Nat} {CN FB FZ FC op FR TO GA TL DU W WF NX HD KX KF KS LA TA WA QC QX BX IF : Nat → Int32} {a m : Nat} (h : a + m + 1 ≤ 16) : ∀ d i, i + d = m → ∀ post : SX → Prop,
    post (now, (nI bf), (nI bs), CN, FB, FZ, FC, op, FR, TO, GA, TL, DU, W, WF, NX, HD, KX, KF, KS, LA, TA, WA, QC, QX, BX, cs_mv IF 1 a m) → wX_moveUp__inboxFrame_2 post (nI a) (nI m) now (nI bf) (nI bs) (d + 1) (nI i) CN FB FZ FC op FR TO GA TL DU W WF NX HD KX KF KS LA TA WA QC QX BX (cs_mv IF 1 a i) := by
  intro d
  induction d with
  | zero =>
    intro i hi post hp
    have e : i = m := by omega
    subst e
    exact br_t (Int32.le_refl _) hp
  | succ d ih =>
    intro i hi post hp
    refine br_f (nI_ge (by omega) (by omega)) ?_
    rw [nI_add, nI_1 (a + i), nI_clamp (show a + i < 2 ^ 31 by omega), nI_clamp (show a + i + 1 < 2 ^ 31 by omega), cs_mv_out (show a + i + 1 < a ∨ a + i ≤ a + i + 1 by omega)]
    exact ⟨vp_in_nI (by omega) (by decide), vp_in_nI (by omega) (by decide), nm_r (cs_mv_s IF 1 a i) (nm_r (nI_1 i) (ih (i + 1) (by omega) post hp))⟩
theorem cs_mu0_IF {now : Int32} {bf bs : Nat} {CN FB FZ FC op FR TO GA TL DU W WF NX HD KX KF KS LA TA WA QC QX BX IF : Nat → Int32} {a m : Nat} (h : a + m + 1 ≤ 16) {post : SX → Prop} (hp : post (now, (nI bf), (nI bs), CN, FB, FZ, FC, op, FR, TO, GA, TL, DU, W, WF, NX, HD, KX, KF, KS, LA, TA, WA, QC, QX, BX, cs_mv IF 1 a m)) : wpX_moveUp__inboxFrame post (now, (nI bf), (nI bs), CN, FB, FZ, FC, op, FR, TO, GA, TL, DU, W, WF, NX, HD, KX, KF, KS, LA, TA, WA, QC, QX, BX, IF) (nI a) (nI m) := by
  have h := @cs_mu_IF now bf bs CN FB FZ FC op FR TO GA TL DU W WF NX HD KX KF KS LA TA WA QC QX BX IF a m h m 0 (by omega) post hp
  rw [cs_mv_0] at h
  exact ⟨m + 1, h⟩
theorem cs_mu_WF {now : Int32} {bf bs : Nat} {CN FB FZ FC op FR TO GA TL DU W WF NX HD KX KF KS LA TA WA QC QX BX IF : Nat → Int32} {a m : Nat} (h : a + m + 1 ≤ 16) : ∀ d i, i + d = m → ∀ post : SX → Prop,
    post (now, (nI bf), (nI bs), CN, FB, FZ, FC, op, FR, TO, GA, TL, DU, W, cs_mv WF 1 a m, NX, HD, KX, KF, KS, LA, TA, WA, QC, QX, BX, IF) → wX_moveUp__waitFrame_2 post (nI a) (nI m) now (nI bf) (nI bs) (d + 1) (nI i) CN FB FZ FC op FR TO GA TL DU W (cs_mv WF 1 a i) NX HD KX KF KS LA TA WA QC QX BX IF := by
  intro d
  induction d with
  | zero =>
    intro i hi post hp
    have e : i = m := by omega
    subst e
    exact br_t (Int32.le_refl _) hp
  | succ d ih =>
    intro i hi post hp
    refine br_f (nI_ge (by omega) (by omega)) ?_
    rw [nI_add, nI_1 (a + i), nI_clamp (show a + i < 2 ^ 31 by omega), nI_clamp (show a + i + 1 < 2 ^ 31 by omega), cs_mv_out (show a + i + 1 < a ∨ a + i ≤ a + i + 1 by omega)]
    exact ⟨vp_in_nI (by omega) (by decide), vp_in_nI (by omega) (by decide), nm_r (cs_mv_s WF 1 a i) (nm_r (nI_1 i) (ih (i + 1) (by omega) post hp))⟩
theorem cs_mu0_WF {now : Int32} {bf bs : Nat} {CN FB FZ FC op FR TO GA TL DU W WF NX HD KX KF KS LA TA WA QC QX BX IF : Nat → Int32} {a m : Nat} (h : a + m + 1 ≤ 16) {post : SX → Prop} (hp : post (now, (nI bf), (nI bs), CN, FB, FZ, FC, op, FR, TO, GA, TL, DU, W, cs_mv WF 1 a m, NX, HD, KX, KF, KS, LA, TA, WA, QC, QX, BX, IF)) : wpX_moveUp__waitFrame post (now, (nI bf), (nI bs), CN, FB, FZ, FC, op, FR, TO, GA, TL, DU, W, WF, NX, HD, KX, KF, KS, LA, TA, WA, QC, QX, BX, IF) (nI a) (nI m) := by
  have h := @cs_mu_WF now bf bs CN FB FZ FC op FR TO GA TL DU W WF NX HD KX KF KS LA TA WA QC QX BX IF a m h m 0 (by omega) post hp
  rw [cs_mv_0] at h
  exact ⟨m + 1, h⟩
theorem cs_mu_QX {now : Int32} {bf bs : Nat} {CN FB FZ FC op FR TO GA TL DU W WF NX HD KX KF KS LA TA WA QC QX BX IF : Nat → Int32} {a m : Nat} (h : a + m + 1 ≤ 24) : ∀ d i, i + d = m → ∀ post : SX → Prop,
    post (now, (nI bf), (nI bs), CN, FB, FZ, FC, op, FR, TO, GA, TL, DU, W, WF, NX, HD, KX, KF, KS, LA, TA, WA, QC, cs_mv QX 1 a m, BX, IF) → wX_moveUp__queueCell_2 post (nI a) (nI m) now (nI bf) (nI bs) (d + 1) (nI i) CN FB FZ FC op FR TO GA TL DU W WF NX HD KX KF KS LA TA WA QC (cs_mv QX 1 a i) BX IF := by
  intro d
  induction d with
  | zero =>
    intro i hi post hp
    have e : i = m := by omega
    subst e
    exact br_t (Int32.le_refl _) hp
  | succ d ih =>
    intro i hi post hp
    refine br_f (nI_ge (by omega) (by omega)) ?_
    rw [nI_add, nI_1 (a + i), nI_clamp (show a + i < 2 ^ 31 by omega), nI_clamp (show a + i + 1 < 2 ^ 31 by omega), cs_mv_out (show a + i + 1 < a ∨ a + i ≤ a + i + 1 by omega)]
    exact ⟨vp_in_nI (by omega) (by decide), vp_in_nI (by omega) (by decide), nm_r (cs_mv_s QX 1 a i) (nm_r (nI_1 i) (ih (i + 1) (by omega) post hp))⟩
theorem cs_mu0_QX {now : Int32} {bf bs : Nat} {CN FB FZ FC op FR TO GA TL DU W WF NX HD KX KF KS LA TA WA QC QX BX IF : Nat → Int32} {a m : Nat} (h : a + m + 1 ≤ 24) {post : SX → Prop} (hp : post (now, (nI bf), (nI bs), CN, FB, FZ, FC, op, FR, TO, GA, TL, DU, W, WF, NX, HD, KX, KF, KS, LA, TA, WA, QC, cs_mv QX 1 a m, BX, IF)) : wpX_moveUp__queueCell post (now, (nI bf), (nI bs), CN, FB, FZ, FC, op, FR, TO, GA, TL, DU, W, WF, NX, HD, KX, KF, KS, LA, TA, WA, QC, QX, BX, IF) (nI a) (nI m) := by
  have h := @cs_mu_QX now bf bs CN FB FZ FC op FR TO GA TL DU W WF NX HD KX KF KS LA TA WA QC QX BX IF a m h m 0 (by omega) post hp
  rw [cs_mv_0] at h
  exact ⟨m + 1, h⟩
theorem cs_Ytk2 {now : Int32} {bf bs : Nat} {CN BU op FR TO GA TL DU W WT NY KY KO KM KT NU CI LE SP BY LA HA CA WA QC QF QL QT BX BH BB : Nat → Int32} {s y n : Nat} {x2 : Int32} (hs : s < 4) (hy : y < 3) : ∀ d i, i + d = 27 → ∀ (post : Int32 → SY → Prop) (J : Int32 → (Nat → Int32) → (Nat → Int32) → (Nat → Int32) → (Nat → Int32) → (Nat → Int32) → (Nat → Int32) → (Nat → Int32) → (Nat → Int32) → (Nat → Int32) → (Nat → Int32) → (Nat → Int32) → (Nat → Int32) → (Nat → Int32) → (Nat → Int32) → (Nat → Int32) → (Nat → Int32) → (Nat → Int32) → (Nat → Int32) → (Nat → Int32) → (Nat → Int32) → (Nat → Int32) → (Nat → Int32) → (Nat → Int32) → (Nat → Int32) → (Nat → Int32) → (Nat → Int32) → (Nat → Int32) → (Nat → Int32) → (Nat → Int32) → (Nat → Int32) → (Nat → Int32) → Prop),
    J (nI (4 * s + y + 1)) CN BU op FR TO GA TL DU W WT NY KY KO KM KT NU CI LE SP BY LA HA CA WA QC QF QL QT BX BH (cs_mv BB 27 (108 * s) (27 * y + 27)) →
    wY_take_76 post J (nI s) x2 (nI (4 * s + y)) now (nI bs) (nI bf) (d + 1) (nI i) CN BU op FR TO GA TL DU W WT NY KY KO KM KT NU CI LE SP BY LA HA CA WA QC QF QL QT BX BH (cs_mv BB 27 (108 * s) (27 * y + i)) := by
  intro d
  induction d with
  | zero =>
    intro i hi post J hp
    have e : i = 27 := by omega
    subst e
    exact br_t (Int32.le_refl _) (nm_r (nI_1 _) hp)
  | succ d ih =>
    intro i hi post J hp
    refine br_f (nI_ge (b := 27) (by omega) (by decide)) ?_
    have e1 : 27 * nI (4 * s + y) + nI i = nI (108 * s + (27 * y + i)) := by rw [cs_27m, nI_add]; exact congrArg nI (by omega)
    have e2 : 27 * nI (4 * s + y) + 27 + nI i = nI (108 * s + (27 * y + i) + 27) := by
      have e3 : 27 * nI (4 * s + y) + 27 = nI (27 * (4 * s + y) + 27) := by rw [cs_27m]; exact nI_add _ 27
      rw [e3, nI_add]
      exact congrArg nI (by omega)
    rw [e1, e2, nI_clamp (show 108 * s + (27 * y + i) < 2 ^ 31 by omega), nI_clamp (show 108 * s + (27 * y + i) + 27 < 2 ^ 31 by omega),
      cs_mv_out (show 108 * s + (27 * y + i) + 27 < 108 * s ∨ 108 * s + (27 * y + i) ≤ 108 * s + (27 * y + i) + 27 by omega)]
    exact ⟨vp_in_nI (by omega) (by decide), vp_in_nI (by omega) (by decide), nm_r (cs_mv_s BB 27 (108 * s) (27 * y + i)) (nm_r (nI_1 i) (ih (i + 1) (by omega) post J hp))⟩
theorem cs_Ytk1 {now : Int32} {bf bs : Nat} {CN BU op FR TO GA TL DU W WT NY KY KO KM KT NU CI LE SP BY LA HA CA WA QC QF QL QT BX BH BB : Nat → Int32} {s n : Nat} {x2 : Int32} (hs : s < 4) (hn : n < 4) (en : BX s = nI n) : ∀ d y, y + d = n → ∀ post : Int32 → SY → Prop,
    post x2 (now, (nI bs), (nI bf), CN, BU, op, FR, TO, GA, TL, DU, W, WT, NY, KY, KO, KM, KT, NU, CI, LE, SP, BY, LA, HA, CA, WA, QC, QF, QL, QT, BX, cs_mv BH 1 (4 * s) n, cs_mv BB 27 (108 * s) (27 * n)) →
    wY_take_45 post (nI s) x2 now (nI bs) (nI bf) (d + 1) (nI (4 * s + y)) CN BU op FR TO GA TL DU W WT NY KY KO KM KT NU CI LE SP BY LA HA CA WA QC QF QL QT BX (cs_mv BH 1 (4 * s) y) (cs_mv BB 27 (108 * s) (27 * y)) := by
  have is4 : vp_in (nI s) 4 := vp_in_nI hs (by decide)
  have es : (nI s).toNatClampNeg = s := nI_clamp (by omega)
  intro d
  induction d with
  | zero =>
    intro y hy post hp
    have e : y = n := by omega
    subst e
    refine ⟨is4, ?_⟩
    rw [es, en, cs_4m, nI_add]
    exact br_t (Int32.le_refl _) hp
  | succ d ih =>
    intro y hy post hp
    refine ⟨is4, ?_⟩
    rw [es, en, cs_4m, nI_add, nI_1 (4 * s + y), nI_clamp (show 4 * s + y < 2 ^ 31 by omega), nI_clamp (show 4 * s + y + 1 < 2 ^ 31 by omega), cs_mv_out (show 4 * s + y + 1 < 4 * s ∨ 4 * s + y ≤ 4 * s + y + 1 by omega)]
    refine br_f (nI_ge (by omega) (by omega)) ⟨vp_in_nI (by omega) (by decide), vp_in_nI (by omega) (by decide), nm_r (cs_mv_s BH 1 (4 * s) y) ⟨28, ?_⟩⟩
    exact @cs_Ytk2 now bf bs CN BU op FR TO GA TL DU W WT NY KY KO KM KT NU CI LE SP BY LA HA CA WA QC QF QL QT BX (cs_mv BH 1 (4 * s) (y + 1)) BB s y n x2 hs (by omega) 27 0 (by omega) post _ (ih (y + 1) (by omega) post hp)
theorem i_vc_take {k : Nat} {u : SX} {v : SY} (I : i_Rel k u v) (hk : k + 5 ≤ 2560) (v1 : Int32) : wpX_take (fun r u' => wpY_take (fun r' v' => r' = r ∧ i_Rel (k + 5) u' v') v v1) u v1 := by
  have I' := i_up I
  obtain ⟨now, bf, bs, CN, FB, FZ, FC, op, FR, TO, GA, TL, DU, W, WF, NX, HD, KX, KF, KS, LA, TA, WA, QC, QX, BX, IF, BU, WT, NY, KY, KO, KM, KT, NU, CI, LE, SP, BY, HA, CA, QF, QL, QT, BH, BB, rfl, rfl, h1, h2, h3, h4, h5, h6, h7, h8, h9, h10, h11⟩ := I
  unfold wpX_take wpY_take
  dsimp only
  rcases cs_stat v1 with ⟨hX, hY⟩ | ⟨s, hs, rfl, hX, hY⟩
  · exact hX _ (br_t rfl (hY _ _ (br_f cs_10 ⟨rfl, I'⟩)))
  have hi : vp_in (nI s) 4 := vp_in_nI hs (by decide)
  have ec : (nI s).toNatClampNeg = s := nI_clamp (by omega)
  rw [ec]
  refine hX _ (br_f cs_10 ?_)
  rcases @cs_desc now bf bs CN FB FZ FC op FR TO GA TL DU W WF NX HD KX KF KS LA TA WA QC QX BX IF BU WT NY KY KO KM KT NU CI LE SP BY HA CA QF QL QT BH BB s hs h1 h8 with ⟨e, hd⟩ | ⟨n, c, z, hn, e, hc, hz1, hz, eb, hd⟩
  · exact hd _ (br_t rfl (hY _ _ (br_t rfl ⟨hi, br_t e ⟨rfl, I'⟩⟩)))
  · have e0 : ¬ BX s = 0 := by rw [e]; exact nI_ne0 (by omega) (by omega)
    have em : BX s - 1 = nI n := by rw [e]; exact nI_pred n
    refine hd _ (br_f (cs_ne2 (by omega)) ?_)
    rw [em, cs_m4, cs_4m, nI_clamp (show 4 * s < 2 ^ 31 by omega)]
    refine ⟨hi, hi, nm_e ⟨hi, ?_⟩⟩
    rw [pk_us]
    refine cs_mu0_IF (by omega) ?_
    refine hY _ _ (br_t rfl ⟨hi, br_f e0 ⟨vp_in_nI (by omega) (by decide), nm_r eb ⟨hi, hi, nm_e (nm_e ⟨n + 1, ?_⟩)⟩⟩⟩)
    have hT := @cs_Ytk1 now bf bs CN BU op FR TO GA TL DU W WT NY KY KO KM KT NU CI LE SP BY LA HA CA WA QC QF QL QT (upd BX s (nI n)) BH BB s n (nI (32 * c + z)) hs (by omega) pk_us n 0 (by omega)
    rw [cs_mv_0, cs_mv_0] at hT
    refine hT _ ⟨rfl, ?_⟩
    exact cs_mk h1 h2 (cs_N_up h3 (by omega)) h4 h5 h6 h7 (cs_I_out h8 hs hn e) h9 h10 h11
end
section
/-! which circuit sends -/
theorem cs_next {now : Int32} {bf bs : Nat} {CN FB FZ FC op FR TO GA TL DU W WF NX HD KX KF KS LA TA WA QC QX BX IF BU WT NY KY KO KM KT NU CI LE SP BY HA CA QF QL QT BH BB : Nat → Int32} {s : Nat} (hs : s < 4) (h5 : cs_W (cs_FP bf FC FZ FB NU CI LE BY) op W WF WT HD SP NX NY) (h10 : cs_L 4 LA 8) : ∀ d i, i + d = 9 →
    (∃ c, c < 8 ∧ W c ≠ 0 ∧ (∀ post : Int32 → Prop, post (nI c) → wX_nextSender_2 post (nI s) now (nI bf) (nI bs) CN FB FZ FC op FR TO GA TL DU W WF NX HD KX KF KS LA TA WA QC QX BX IF (d + 1) (nI i)) ∧ (∀ post : Int32 → Prop, post (nI c) → wY_nextCircuit_2 post (nI s) now (nI bs) (nI bf) CN BU op FR TO GA TL DU W WT NY KY KO KM KT NU CI LE SP BY LA HA CA WA QC QF QL QT BX BH BB (d + 1) (nI i))) ∨
    ((∀ post : Int32 → Prop, post (-2) → wX_nextSender_2 post (nI s) now (nI bf) (nI bs) CN FB FZ FC op FR TO GA TL DU W WF NX HD KX KF KS LA TA WA QC QX BX IF (d + 1) (nI i)) ∧ (∀ post : Int32 → Prop, post (-1) → wY_nextCircuit_2 post (nI s) now (nI bs) (nI bf) CN BU op FR TO GA TL DU W WT NY KY KO KM KT NU CI LE SP BY LA HA CA WA QC QF QL QT BX BH BB (d + 1) (nI i))) := by
  have is4 : vp_in (nI s) 4 := vp_in_nI hs (by decide)
  have es : (nI s).toNatClampNeg = s := nI_clamp (by omega)
  obtain ⟨l, hl, el⟩ := h10 s hs
  intro d
  induction d with
  | zero =>
    intro i hi
    have e : i = 9 := by omega
    subst e
    exact Or.inr ⟨fun post hp => br_t (nI_lt (a := 8) (b := 9) (by decide) (by decide)) hp, fun post hp => br_t (Int32.le_refl _) hp⟩
  | succ d ih =>
    intro i hi
    have hx : ¬ (8 : Int32) < nI i := nI_nlt (a := 8) (by omega) (by decide)
    have hy : ¬ (9 : Int32) ≤ nI i := nI_ge (b := 9) (by omega) (by decide)
    have r8 : nI (l + i) - nI (l + i) / 8 * 8 = nI ((l + i) % 8) := pk_rem (d := 8) (by omega) (by decide) (by decide)
    generalize hcd : (l + i) % 8 = c at r8
    have hc : c < 8 := by omega
    have ic : vp_in (nI c) 8 := vp_in_nI hc (by decide)
    have ec : (nI c).toNatClampNeg = c := nI_clamp (by omega)
    obtain ⟨w, hw, eW⟩ := cs_W_val h5 hc
    by_cases g : w ≠ 0 ∧ FR c = nI s
    · have hw0 : W c ≠ 0 := by rw [eW]; exact nI_ne0 (by omega) (by omega)
      have ho := (cs_W_get h5 hc hw0).1
      have hwl : ¬ W c ≤ 0 := by rw [eW]; exact nI_nle (by omega) (by omega)
      refine Or.inl ⟨c, hc, hw0, fun post hp => br_f hx ⟨is4, cs_z8, ?_⟩, fun post hp => br_f hy ⟨is4, cs_z8, ?_⟩⟩
      · rw [es, el, nI_add]
        refine nm_r r8 ⟨ic, ?_⟩
        rw [ec]
        exact br_f hwl ⟨ic, br_t g.2 hp⟩
      · rw [es, el, nI_add]
        refine nm_r r8 ⟨ic, ?_⟩
        rw [ec]
        exact br_f ho ⟨ic, br_t g.2 ⟨ic, br_f hwl hp⟩⟩
    · have stepX : ∀ post : Int32 → Prop, wX_nextSender_2 post (nI s) now (nI bf) (nI bs) CN FB FZ FC op FR TO GA TL DU W WF NX HD KX KF KS LA TA WA QC QX BX IF (d + 1) (nI (i + 1)) → wX_nextSender_2 post (nI s) now (nI bf) (nI bs) CN FB FZ FC op FR TO GA TL DU W WF NX HD KX KF KS LA TA WA QC QX BX IF (d + 1 + 1) (nI i) := by
        intro post hW
        refine br_f hx ⟨is4, cs_z8, ?_⟩
        rw [es, el, nI_add]
        refine nm_r r8 ⟨ic, ?_⟩
        rw [ec, eW]
        by_cases hw0 : w = 0
        · subst hw0
          exact br_t (Int32.le_refl _) (nm_r (nI_1 i) hW)
        · exact br_f (nI_nle (by omega) (by omega)) ⟨ic, br_f (fun z => g ⟨hw0, z⟩) (nm_r (nI_1 i) hW)⟩
      have stepY : ∀ post : Int32 → Prop, wY_nextCircuit_2 post (nI s) now (nI bs) (nI bf) CN BU op FR TO GA TL DU W WT NY KY KO KM KT NU CI LE SP BY LA HA CA WA QC QF QL QT BX BH BB (d + 1) (nI (i + 1)) → wY_nextCircuit_2 post (nI s) now (nI bs) (nI bf) CN BU op FR TO GA TL DU W WT NY KY KO KM KT NU CI LE SP BY LA HA CA WA QC QF QL QT BX BH BB (d + 1 + 1) (nI i) := by
        intro post hW
        refine br_f hy ⟨is4, cs_z8, ?_⟩
        rw [es, el, nI_add]
        refine nm_r r8 ⟨ic, ?_⟩
        rw [ec, eW]
        by_cases ho : op c = 0
        · exact br_t ho (nm_r (nI_1 i) hW)
        refine br_f ho ⟨ic, ?_⟩
        by_cases hf : FR c = nI s
        · have hw0 : w = 0 := Classical.byContradiction fun z => g ⟨z, hf⟩
          subst hw0
          exact br_t hf ⟨ic, br_t (Int32.le_refl _) (nm_r (nI_1 i) hW)⟩
        · exact br_f hf (nm_r (nI_1 i) hW)
      rcases ih (i + 1) (by omega) with ⟨c', g1, g2, g3, g4⟩ | ⟨g3, g4⟩
      · exact Or.inl ⟨c', g1, g2, fun post hp => stepX post (g3 post hp), fun post hp => stepY post (g4 post hp)⟩
      · exact Or.inr ⟨fun post hp => stepX post (g3 post hp), fun post hp => stepY post (g4 post hp)⟩
theorem cs_next0 {now : Int32} {bf bs : Nat} {CN FB FZ FC op FR TO GA TL DU W WF NX HD KX KF KS LA TA WA QC QX BX IF BU WT NY KY KO KM KT NU CI LE SP BY HA CA QF QL QT BH BB : Nat → Int32} {s : Nat} (hs : s < 4) (h5 : cs_W (cs_FP bf FC FZ FB NU CI LE BY) op W WF WT HD SP NX NY) (h10 : cs_L 4 LA 8) :
    (∃ c, c < 8 ∧ W c ≠ 0 ∧ (∀ post : Int32 → Prop, post (nI c) → wpX_nextSender post (now, (nI bf), (nI bs), CN, FB, FZ, FC, op, FR, TO, GA, TL, DU, W, WF, NX, HD, KX, KF, KS, LA, TA, WA, QC, QX, BX, IF) (nI s)) ∧ (∀ post : Int32 → Prop, post (nI c) → wpY_nextCircuit post (now, (nI bs), (nI bf), CN, BU, op, FR, TO, GA, TL, DU, W, WT, NY, KY, KO, KM, KT, NU, CI, LE, SP, BY, LA, HA, CA, WA, QC, QF, QL, QT, BX, BH, BB) (nI s))) ∨
    ((∀ post : Int32 → Prop, post (-2) → wpX_nextSender post (now, (nI bf), (nI bs), CN, FB, FZ, FC, op, FR, TO, GA, TL, DU, W, WF, NX, HD, KX, KF, KS, LA, TA, WA, QC, QX, BX, IF) (nI s)) ∧ (∀ post : Int32 → Prop, post (-1) → wpY_nextCircuit post (now, (nI bs), (nI bf), CN, BU, op, FR, TO, GA, TL, DU, W, WT, NY, KY, KO, KM, KT, NU, CI, LE, SP, BY, LA, HA, CA, WA, QC, QF, QL, QT, BX, BH, BB) (nI s))) := by
  rcases @cs_next now bf bs CN FB FZ FC op FR TO GA TL DU W WF NX HD KX KF KS LA TA WA QC QX BX IF BU WT NY KY KO KM KT NU CI LE SP BY HA CA QF QL QT BH BB s hs h5 h10 8 1 (by omega) with ⟨c, g1, g2, g3, g4⟩ | ⟨g3, g4⟩
  · exact Or.inl ⟨c, g1, g2, fun post hp => ⟨9, g3 post hp⟩, fun post hp => ⟨9, g4 post hp⟩⟩
  · exact Or.inr ⟨fun post hp => ⟨9, g3 post hp⟩, fun post hp => ⟨9, g4 post hp⟩⟩
/-! the line -/
theorem cs_line {now : Int32} {bf bs : Nat} {CN FB FZ FC op FR TO GA TL DU W WF NX HD KX KF KS LA TA WA QC QX BX IF BU WT NY KY KO KM KT NU CI LE SP BY HA CA QF QL QT BH BB : Nat → Int32} {W2 : Nat → Int32} {s t : Nat} (hs : s < 4) (ht : t ≤ 3) : ∃ wv : Int32,
    ((∀ post : Int32 → SX → Prop, post 0 (now, (nI bf), (nI bs), CN, FB, FZ, FC, op, FR, TO, GA, TL, DU, W, WF, NX, HD, KX, KF, KS, LA, TA, upd WA s wv, QC, QX, BX, IF) → wpX_crossesLine post (now, (nI bf), (nI bs), CN, FB, FZ, FC, op, FR, TO, GA, TL, DU, W, WF, NX, HD, KX, KF, KS, LA, TA, WA, QC, QX, BX, IF) (nI s) (nI t)) ∧ (∀ post : Int32 → SY → Prop, post 1 (now, (nI bs), (nI bf), CN, BU, op, FR, TO, GA, TL, DU, W2, WT, NY, KY, KO, KM, KT, NU, CI, LE, SP, BY, LA, HA, CA, upd WA s wv, QC, QF, QL, QT, BX, BH, BB) → wpY_isLost post (now, (nI bs), (nI bf), CN, BU, op, FR, TO, GA, TL, DU, W2, WT, NY, KY, KO, KM, KT, NU, CI, LE, SP, BY, LA, HA, CA, WA, QC, QF, QL, QT, BX, BH, BB) (nI s) (nI (if t = 3 then 0 else t)))) ∨
    ((∀ post : Int32 → SX → Prop, post 1 (now, (nI bf), (nI bs), CN, FB, FZ, FC, op, FR, TO, GA, TL, DU, W, WF, NX, HD, KX, KF, KS, LA, TA, upd WA s wv, QC, QX, BX, IF) → wpX_crossesLine post (now, (nI bf), (nI bs), CN, FB, FZ, FC, op, FR, TO, GA, TL, DU, W, WF, NX, HD, KX, KF, KS, LA, TA, WA, QC, QX, BX, IF) (nI s) (nI t)) ∧ (∀ post : Int32 → SY → Prop, post 0 (now, (nI bs), (nI bf), CN, BU, op, FR, TO, GA, TL, DU, W2, WT, NY, KY, KO, KM, KT, NU, CI, LE, SP, BY, LA, HA, CA, upd WA s wv, QC, QF, QL, QT, BX, BH, BB) → wpY_isLost post (now, (nI bs), (nI bf), CN, BU, op, FR, TO, GA, TL, DU, W2, WT, NY, KY, KO, KM, KT, NU, CI, LE, SP, BY, LA, HA, CA, WA, QC, QF, QL, QT, BX, BH, BB) (nI s) (nI (if t = 3 then 0 else t)))) := by
  have is4 : vp_in (nI s) 4 := vp_in_nI hs (by decide)
  have es : (nI s).toNatClampNeg = s := nI_clamp (by omega)
  have n01 : ¬ nI 0 = 1 := by decide
  have n02 : ¬ nI 0 = 2 := by decide
  have n12 : ¬ nI 1 = 2 := by decide
  have n21 : ¬ nI 2 = 1 := by decide
  have n31 : ¬ nI 3 = 1 := by decide
  have n32 : ¬ nI 3 = 2 := by decide
  have p0 : nI 0 ≤ 0 := by decide
  have p1 : ¬ nI 1 ≤ 0 := by decide
  have p2 : ¬ nI 2 ≤ 0 := by decide
  unfold wpX_crossesLine wpY_isLost wX_crossesLine_22 wX_crossesLine_27 wY_isLost_21
  dsimp only
  rw [es, cs_b0, cs_b1]
  rcases (show t = 0 ∨ t = 1 ∨ t = 2 ∨ t = 3 by omega) with e | e | e | e
  · subst e
    exact ⟨0, Or.inr ⟨fun post hp => ⟨is4, nm_e (br_f n01 (br_f n02 ⟨is4, nm_e (br_f n02 (br_f n01 hp))⟩))⟩, fun post hp => ⟨is4, nm_e (br_t p0 ⟨is4, nm_e (br_f n02 (br_f n01 hp))⟩)⟩⟩⟩
  · subst e
    by_cases hw : WA s = 0
    · exact ⟨1, Or.inr ⟨fun post hp => ⟨is4, nm_e (br_t rfl ⟨is4, nm_e (br_f n12 (br_t rfl (br_t hw hp)))⟩)⟩, fun post hp => ⟨is4, nm_e (br_f p1 ⟨is4, nm_e (br_f n12 (br_t rfl (br_t hw hp)))⟩)⟩⟩⟩
    · exact ⟨1, Or.inl ⟨fun post hp => ⟨is4, nm_e (br_t rfl ⟨is4, nm_e (br_f n12 (br_t rfl (br_f hw hp)))⟩)⟩, fun post hp => ⟨is4, nm_e (br_f p1 ⟨is4, nm_e (br_f n12 (br_t rfl (br_f hw hp)))⟩)⟩⟩⟩
  · subst e
    exact ⟨1, Or.inl ⟨fun post hp => ⟨is4, nm_e (br_f n21 (br_t rfl ⟨is4, nm_e (br_t rfl hp)⟩))⟩, fun post hp => ⟨is4, nm_e (br_f p2 ⟨is4, nm_e (br_t rfl hp)⟩)⟩⟩⟩
  · subst e
    exact ⟨0, Or.inr ⟨fun post hp => ⟨is4, nm_e (br_f n31 (br_f n32 ⟨is4, nm_e (br_f n32 (br_f n31 hp))⟩))⟩, fun post hp => ⟨is4, nm_e (br_t p0 ⟨is4, nm_e (br_f n02 (br_f n01 hp))⟩)⟩⟩⟩
/-! a cell at the switch -/
theorem cs_enter97 {now : Int32} {bf bs : Nat} {CN FB FZ FC op FR TO GA TL DU W WF NX HD KX KF KS LA TA WA QC QX BX IF BU WT NY KY KO KM KT NU CI LE SP BY HA CA QF QL QT BH BB : Nat → Int32} {W2 : Nat → Int32} {c f p z l t to : Nat} (h1 : bf ≤ 255) (hc : c < 8) (hl : l ≤ 1) (ht : t ≤ 1) (hf : cs_FP bf FC FZ FB NU CI LE BY f p c z) (ho : op c ≠ 0)
    (h7 : cs_Q (cs_FP bf FC FZ FB NU CI LE BY) op TO QC QX QF QL QT) (hto : to < 4) (eto : TO c = nI to) :
    ∃ CN' HD' SP' QC' QX' QF' QL' QT' : Nat → Int32, cs_D HD HD' SP SP' c p ∧ cs_Q (cs_FP bf FC FZ FB NU CI LE BY) op TO QC' QX' QF' QL' QT' ∧
    (∀ post : SX → Prop, post (now, (nI bf), (nI bs), CN', FB, FZ, FC, op, FR, TO, GA, TL, DU, W, WF, NX, HD', KX, KF, KS, LA, TA, WA, QC', QX', BX, IF) → wX_enterSwitch_97 post (nI c) (nI (4 * f + 2 * l + t)) (nI to) now (nI bf) (nI bs) CN FB FZ FC op FR TO GA TL DU W WF NX HD KX KF KS LA TA WA QC QX BX IF) ∧
    (∀ post : SY → Prop, post (now, (nI bs), (nI bf), CN', BU, op, FR, TO, GA, TL, DU, W2, WT, NY, KY, KO, KM, KT, NU, CI, LE, SP', BY, LA, HA, CA, WA, QC', QF', QL', QT', BX, BH, BB) → wY_comeToSwitch_96 post (nI p) (nI l) (nI t) (nI to) now (nI bs) (nI bf) CN BU op FR TO GA TL DU W2 WT NY KY KO KM KT NU CI LE SP BY LA HA CA WA QC QF QL QT BX BH BB) := by
  have ic : vp_in (nI c) 8 := vp_in_nI hc (by decide)
  have ec : (nI c).toNatClampNeg = c := nI_clamp (by omega)
  have it : vp_in (nI to) 4 := vp_in_nI hto (by decide)
  have et : (nI to).toNatClampNeg = to := nI_clamp (by omega)
  have hp64 := hf.1
  have ip : vp_in (nI p) 64 := vp_in_nI hp64 (by decide)
  have ep : (nI p).toNatClampNeg = p := nI_clamp (by omega)
  have i7 : vp_in (2 : Int32) 7 := vp_in_nI (n := 2) (by decide) (by decide)
  obtain ⟨n, hn, en, hs⟩ := h7 to hto
  by_cases h6 : n = 6
  · subst h6
    refine ⟨upd CN 2 (CN 2 + 1), upd HD c 1, upd SP p 1, QC, QX, QF, QL, QT, Or.inr ⟨rfl, rfl⟩, h7, fun post hp => ?_, fun post hp => ?_⟩
    · unfold wX_enterSwitch_97 wpX_drop
      dsimp only
      rw [et, en, ec, cs_b1]
      exact ⟨it, br_t rfl ⟨ic, nm_e ⟨i7, i7, nm_e hp⟩⟩⟩
    · unfold wY_comeToSwitch_96 wpY_dropCell
      dsimp only
      rw [et, en, ep, cs_b1]
      exact ⟨it, br_t rfl ⟨ip, nm_e ⟨i7, i7, nm_e hp⟩⟩⟩
  · have h6' : ¬ nI n = 6 := fun z => h6 (cs_nI_inj (b := 6) (by omega) (by decide) z)
    have i24 : vp_in (nI (6 * to + n)) 24 := vp_in_nI (by omega) (by decide)
    refine ⟨CN, HD, SP, upd QC to (nI (n + 1)), upd QX (6 * to + n) (nI (4 * f + 2 * l + t)), upd QF (6 * to + n) (nI p), upd QL (6 * to + n) (nI l), upd QT (6 * to + n) (nI t), Or.inl ⟨rfl, rfl⟩, cs_Q_in h7 hto (by omega) en hl ht hf ho eto, fun post hp => ?_, fun post hp => ?_⟩
    · unfold wX_enterSwitch_97
      rw [et, en, cs_m6, nI_add, nI_clamp (show 6 * to + n < 2 ^ 31 by omega), nI_1 n]
      exact ⟨it, br_f h6' ⟨it, i24, nm_e ⟨it, it, nm_e hp⟩⟩⟩
    · unfold wY_comeToSwitch_96
      rw [et, en, cs_6m, nI_add, nI_1 n, cs_bn hl, cs_bn ht]
      refine ⟨it, br_f h6' ⟨it, nm_e ⟨i24, ?_⟩⟩⟩
      rw [nI_clamp (show 6 * to + n < 2 ^ 31 by omega)]
      exact nm_e ⟨i24, nm_e ⟨i24, nm_e ⟨it, it, nm_e hp⟩⟩⟩
theorem cs_enter58 {now : Int32} {bf bs : Nat} {CN FB FZ FC op FR TO GA TL DU W WF NX HD KX KF KS LA TA WA QC QX BX IF BU WT NY KY KO KM KT NU CI LE SP BY HA CA QF QL QT BH BB : Nat → Int32} {W2 : Nat → Int32} {z0 : Int32} {c f p z l t : Nat} (h1 : bf ≤ 255) (hc : c < 8) (hl : l ≤ 1) (ht : t ≤ 1) (hf : cs_FP bf FC FZ FB NU CI LE BY f p c z) (ho : op c ≠ 0)
    (hD : HD c = 0 ↔ SP p = 0) (h7 : cs_Q (cs_FP bf FC FZ FB NU CI LE BY) op TO QC QX QF QL QT) (h11 : cs_L 8 TO 4) :
    ∃ CN' DU' HD' SP' QC' QX' QF' QL' QT' : Nat → Int32, cs_D HD HD' SP SP' c p ∧ cs_Q (cs_FP bf FC FZ FB NU CI LE BY) op TO QC' QX' QF' QL' QT' ∧
    (∀ post : SX → Prop, post (now, (nI bf), (nI bs), CN', FB, FZ, FC, op, FR, TO, GA, TL, DU', W, WF, NX, HD', KX, KF, KS, LA, TA, WA, QC', QX', BX, IF) → wX_enterSwitch_58 post (nI c) (nI (4 * f + 2 * l + t)) z0 (nI c) now (nI bf) (nI bs) CN FB FZ FC op FR TO GA TL DU W WF NX HD KX KF KS LA TA WA QC QX BX IF) ∧
    (∀ post : SY → Prop, post (now, (nI bs), (nI bf), CN', BU, op, FR, TO, GA, TL, DU', W2, WT, NY, KY, KO, KM, KT, NU, CI, LE, SP', BY, LA, HA, CA, WA, QC', QF', QL', QT', BX, BH, BB) → wY_comeToSwitch_58 post (nI c) (nI p) (nI l) (nI t) z0 (nI c) now (nI bs) (nI bf) CN BU op FR TO GA TL DU W2 WT NY KY KO KM KT NU CI LE SP BY LA HA CA WA QC QF QL QT BX BH BB) := by
  obtain ⟨to, hto, eto⟩ := h11 c hc
  have ic : vp_in (nI c) 8 := vp_in_nI hc (by decide)
  have ec : (nI c).toNatClampNeg = c := nI_clamp (by omega)
  have hp64 := hf.1
  have hf256 := hf.2.1
  have ip : vp_in (nI p) 64 := vp_in_nI hp64 (by decide)
  have ep : (nI p).toNatClampNeg = p := nI_clamp (by omega)
  have i7 : vp_in (1 : Int32) 7 := vp_in_nI (n := 1) (by decide) (by decide)
  have e2 := cs_and2 f (by omega) l (by omega) t (by omega)
  by_cases g : ¬ HD c = 0 ∧ l = 0
  · obtain ⟨g1, g2⟩ := g
    have g1' : ¬ SP p = 0 := fun z => g1 (hD.mpr z)
    subst g2
    refine ⟨upd CN 1 (CN 1 + 1), upd DU c (z0 + GA c), upd HD c 1, upd SP p 1, QC, QX, QF, QL, QT, Or.inr ⟨rfl, rfl⟩, h7, fun post hp => ?_, fun post hp => ?_⟩
    · unfold wX_enterSwitch_58 wpX_drop
      dsimp only
      rw [ec, e2, cs_b1]
      exact ⟨ic, ic, nm_e ⟨ic, nm_e ⟨ic, br_f g1 (br_t rfl ⟨ic, nm_e ⟨i7, i7, nm_e hp⟩⟩)⟩⟩⟩
    · unfold wY_comeToSwitch_58 wpY_dropCell
      dsimp only
      rw [ec, ep, cs_b1]
      exact ⟨ic, ic, nm_e ⟨ic, nm_e ⟨ip, br_f g1' (br_t rfl ⟨ip, nm_e ⟨i7, i7, nm_e hp⟩⟩)⟩⟩⟩
  · obtain ⟨CN', HD', SP', QC', QX', QF', QL', QT', k1, k2, k3, k4⟩ := @cs_enter97 now bf bs CN FB FZ FC op FR TO GA TL (upd DU c (z0 + GA c)) W WF NX HD KX KF KS LA TA WA QC QX BX IF BU WT NY KY KO KM KT NU CI LE SP BY HA CA QF QL QT BH BB W2 c f p z l t to h1 hc hl ht hf ho h7 hto eto
    refine ⟨CN', upd DU c (z0 + GA c), HD', SP', QC', QX', QF', QL', QT', k1, k2, fun post hp => ?_, fun post hp => ?_⟩
    · unfold wX_enterSwitch_58
      rw [ec, e2]
      refine ⟨ic, ic, nm_e ⟨ic, nm_r eto ⟨ic, ?_⟩⟩⟩
      by_cases q : HD c = 0
      · exact br_t q (k3 post hp)
      · have l1 : l = 1 := by
          have : ¬ l = 0 := fun z => g ⟨q, z⟩
          omega
        subst l1
        exact br_f q (br_f (by decide) (k3 post hp))
    · unfold wY_comeToSwitch_58
      rw [ec, ep]
      refine ⟨ic, ic, nm_e ⟨ic, nm_r eto ⟨ip, ?_⟩⟩⟩
      by_cases q : SP p = 0
      · exact br_t q (k4 post hp)
      · have l1 : l = 1 := by
          have : ¬ l = 0 := fun z => g ⟨fun y => q (hD.mp y), z⟩
          omega
        subst l1
        exact br_f q (br_f (by decide) (k4 post hp))
theorem cs_enter {now : Int32} {bf bs : Nat} {CN FB FZ FC op FR TO GA TL DU W WF NX HD KX KF KS LA TA WA QC QX BX IF BU WT NY KY KO KM KT NU CI LE SP BY HA CA QF QL QT BH BB : Nat → Int32} {W2 : Nat → Int32} {c f p z l t : Nat} (h1 : bf ≤ 255) (hc : c < 8) (hl : l ≤ 1) (ht : t ≤ 1) (hf : cs_FP bf FC FZ FB NU CI LE BY f p c z) (ho : op c ≠ 0)
    (hD : HD c = 0 ↔ SP p = 0) (h7 : cs_Q (cs_FP bf FC FZ FB NU CI LE BY) op TO QC QX QF QL QT) (h11 : cs_L 8 TO 4) :
    ∃ CN' DU' HD' SP' QC' QX' QF' QL' QT' : Nat → Int32, cs_D HD HD' SP SP' c p ∧ cs_Q (cs_FP bf FC FZ FB NU CI LE BY) op TO QC' QX' QF' QL' QT' ∧
    (∀ post : SX → Prop, post (now, (nI bf), (nI bs), CN', FB, FZ, FC, op, FR, TO, GA, TL, DU', W, WF, NX, HD', KX, KF, KS, LA, TA, WA, QC', QX', BX, IF) → wpX_enterSwitch post (now, (nI bf), (nI bs), CN, FB, FZ, FC, op, FR, TO, GA, TL, DU, W, WF, NX, HD, KX, KF, KS, LA, TA, WA, QC, QX, BX, IF) (nI c) (nI (4 * f + 2 * l + t))) ∧
    (∀ post : SY → Prop, post (now, (nI bs), (nI bf), CN', BU, op, FR, TO, GA, TL, DU', W2, WT, NY, KY, KO, KM, KT, NU, CI, LE, SP', BY, LA, HA, CA, WA, QC', QF', QL', QT', BX, BH, BB) → wpY_comeToSwitch post (now, (nI bs), (nI bf), CN, BU, op, FR, TO, GA, TL, DU, W2, WT, NY, KY, KO, KM, KT, NU, CI, LE, SP, BY, LA, HA, CA, WA, QC, QF, QL, QT, BX, BH, BB) (nI c) (nI p) (nI l) (nI t)) := by
  have ic : vp_in (nI c) 8 := vp_in_nI hc (by decide)
  have ec : (nI c).toNatClampNeg = c := nI_clamp (by omega)
  have hp64 := hf.1
  have ip : vp_in (nI p) 64 := vp_in_nI hp64 (by decide)
  have ep : (nI p).toNatClampNeg = p := nI_clamp (by omega)
  have i7 : vp_in (0 : Int32) 7 := vp_in_nI (n := 0) (by decide) (by decide)
  by_cases g : DU c - TL c ≤ now
  · by_cases q : now ≤ DU c
    · obtain ⟨CN', DU', HD', SP', QC', QX', QF', QL', QT', k1, k2, k3, k4⟩ := @cs_enter58 now bf bs CN FB FZ FC op FR TO GA TL DU W WF NX HD KX KF KS LA TA WA QC QX BX IF BU WT NY KY KO KM KT NU CI LE SP BY HA CA QF QL QT BH BB W2 (DU c) c f p z l t h1 hc hl ht hf ho hD h7 h11
      refine ⟨CN', DU', HD', SP', QC', QX', QF', QL', QT', k1, k2, fun post hp => ?_, fun post hp => ?_⟩
      · unfold wpX_enterSwitch
        dsimp only
        rw [ec]
        exact ⟨ic, ic, br_t g ⟨ic, br_t q ⟨ic, k3 post hp⟩⟩⟩
      · unfold wpY_comeToSwitch
        dsimp only
        rw [ec]
        exact ⟨ic, ic, br_t g ⟨ic, br_t q ⟨ic, k4 post hp⟩⟩⟩
    · obtain ⟨CN', DU', HD', SP', QC', QX', QF', QL', QT', k1, k2, k3, k4⟩ := @cs_enter58 now bf bs CN FB FZ FC op FR TO GA TL DU W WF NX HD KX KF KS LA TA WA QC QX BX IF BU WT NY KY KO KM KT NU CI LE SP BY HA CA QF QL QT BH BB W2 now c f p z l t h1 hc hl ht hf ho hD h7 h11
      refine ⟨CN', DU', HD', SP', QC', QX', QF', QL', QT', k1, k2, fun post hp => ?_, fun post hp => ?_⟩
      · unfold wpX_enterSwitch
        dsimp only
        rw [ec]
        exact ⟨ic, ic, br_t g ⟨ic, br_f q (k3 post hp)⟩⟩
      · unfold wpY_comeToSwitch
        dsimp only
        rw [ec]
        exact ⟨ic, ic, br_t g ⟨ic, br_f q (k4 post hp)⟩⟩
  · refine ⟨upd CN 0 (CN 0 + 1), DU, upd HD c 1, upd SP p 1, QC, QX, QF, QL, QT, Or.inr ⟨rfl, rfl⟩, h7, fun post hp => ?_, fun post hp => ?_⟩
    · unfold wpX_enterSwitch wpX_drop
      dsimp only
      rw [ec, cs_b1]
      exact ⟨ic, ic, br_f g ⟨ic, nm_e ⟨i7, i7, nm_e hp⟩⟩⟩
    · unfold wpY_comeToSwitch wpY_dropCell
      dsimp only
      rw [ec, ep, cs_b1]
      exact ⟨ic, ic, br_f g ⟨ip, nm_e ⟨i7, i7, nm_e hp⟩⟩⟩
end
section
theorem cs_cell {f : Nat} (hf : f < 256) (a b : Nat) : (nI f <<< ((2 : Int32) &&& 31) + nI a) + nI b = nI (4 * f + a + b) := by
  rw [cs_shl f hf, nI_add, nI_add]
theorem cs_Xs1 {now : Int32} {bf bs : Nat} {CN FB FZ FC op FR TO GA TL DU W WF NX HD KX KF KS LA TA WA QC QX BX IF : Nat → Int32} {s c t f z m l : Nat} (hs : s < 4) (hc : c < 8) (hf : f < 256) (hz : z ≤ 27) (et : TA s = nI t) (ef : WF (2 * c) = nI f) (ez : FZ f = nI z) (em : NX c = nI m) (hm : m < 4)
    (hl : (l = 0 ∧ m + 1 < (z + 12) / 8) ∨ (l = 1 ∧ (z + 12) / 8 ≤ m + 1)) (hN : ∀ post : Int32 → Prop, post (nI c) → wpX_nextSender post (now, (nI bf), (nI bs), CN, FB, FZ, FC, op, FR, TO, GA, TL, DU, W, WF, NX, HD, KX, KF, KS, LA, TA, WA, QC, QX, BX, IF) (nI s)) {post : SX → Prop}
    (hp : wX_sendFrom_74 post (nI s) (nI c) (nI t) (nI f) (nI l) now (nI bf) (nI bs) CN FB FZ FC op FR TO GA TL DU W WF (upd NX c (nI (m + 1))) HD KX KF KS (upd LA s (nI c)) (upd TA s 0) WA QC QX BX IF) : wpX_sendFrom post (now, (nI bf), (nI bs), CN, FB, FZ, FC, op, FR, TO, GA, TL, DU, W, WF, NX, HD, KX, KF, KS, LA, TA, WA, QC, QX, BX, IF) (nI s) := by
  have is4 : vp_in (nI s) 4 := vp_in_nI hs (by decide)
  have es : (nI s).toNatClampNeg = s := nI_clamp (by omega)
  have ic : vp_in (nI c) 8 := vp_in_nI hc (by decide)
  have ec : (nI c).toNatClampNeg = c := nI_clamp (by omega)
  unfold wpX_sendFrom
  refine hN _ (br_f (cs_ne2 (by omega)) ?_)
  rw [es, ec, cs_m2, nI_clamp (show 2 * c < 2 ^ 31 by omega), em, nI_1 m]
  refine ⟨is4, nm_e ⟨is4, nm_r et ⟨is4, nm_e ⟨vp_in_nI (by omega) (by decide), nm_r ef ⟨ic, ic, nm_e ⟨ic, ?_⟩⟩⟩⟩⟩⟩
  refine cs_Xcells hf hz ez ?_
  rw [pk_us]
  rcases hl with ⟨rfl, hl⟩ | ⟨rfl, hl⟩
  · exact br_t (nI_lt hl (by omega)) hp
  · exact br_f (nI_nlt hl (by omega)) hp
theorem cs_Xs2l {now : Int32} {bf bs : Nat} {CN FB FZ FC op FR TO GA TL DU W WF NX HD KX KF KS LA TA WA QC QX BX IF : Nat → Int32} {WA' : Nat → Int32} {s c t f l : Nat} (hf : f < 256) (hl : l ≤ 1) (ht : t ≤ 3) (hL : ∀ post : Int32 → SX → Prop, post 0 (now, (nI bf), (nI bs), CN, FB, FZ, FC, op, FR, TO, GA, TL, DU, W, WF, NX, HD, KX, KF, KS, LA, TA, WA', QC, QX, BX, IF) → wpX_crossesLine post (now, (nI bf), (nI bs), CN, FB, FZ, FC, op, FR, TO, GA, TL, DU, W, WF, NX, HD, KX, KF, KS, LA, TA, WA, QC, QX, BX, IF) (nI s) (nI t)) {post : SX → Prop}
    (hp : wX_sendFrom_133 post (nI c) (nI l) now (nI bf) (nI bs) (upd CN 3 (CN 3 + 1)) FB FZ FC op FR TO GA TL DU W WF NX HD KX KF KS LA TA WA' QC QX BX IF) : wX_sendFrom_74 post (nI s) (nI c) (nI t) (nI f) (nI l) now (nI bf) (nI bs) CN FB FZ FC op FR TO GA TL DU W WF NX HD KX KF KS LA TA WA QC QX BX IF := by
  have h101 : ∀ z0 z1 : Int32, wX_sendFrom_101 post (nI s) (nI c) (nI t) (nI l) z0 z1 now (nI bf) (nI bs) CN FB FZ FC op FR TO GA TL DU W WF NX HD KX KF KS LA TA WA QC QX BX IF := by
    intro z0 z1
    unfold wX_sendFrom_101
    exact nm_e (hL _ (br_t rfl (nm_e hp)))
  unfold wX_sendFrom_74 wX_sendFrom_90
  exact br_c (fun _ => br_c (fun _ => h101 _ _) (fun _ => h101 _ _)) (fun _ => br_c (fun _ => h101 _ _) (fun _ => h101 _ _))
theorem cs_Xs2p {now : Int32} {bf bs : Nat} {CN FB FZ FC op FR TO GA TL DU W WF NX HD KX KF KS LA TA WA QC QX BX IF : Nat → Int32} {WA' CN' DU' HD' QC' QX' : Nat → Int32} {s c t f l : Nat} (hf : f < 256) (hl : l ≤ 1) (ht : t ≤ 3) (hL : ∀ post : Int32 → SX → Prop, post 1 (now, (nI bf), (nI bs), CN, FB, FZ, FC, op, FR, TO, GA, TL, DU, W, WF, NX, HD, KX, KF, KS, LA, TA, WA', QC, QX, BX, IF) → wpX_crossesLine post (now, (nI bf), (nI bs), CN, FB, FZ, FC, op, FR, TO, GA, TL, DU, W, WF, NX, HD, KX, KF, KS, LA, TA, WA, QC, QX, BX, IF) (nI s) (nI t))
    (hE : ∀ post : SX → Prop, post (now, (nI bf), (nI bs), CN', FB, FZ, FC, op, FR, TO, GA, TL, DU', W, WF, NX, HD', KX, KF, KS, LA, TA, WA', QC', QX', BX, IF) → wpX_enterSwitch post (now, (nI bf), (nI bs), CN, FB, FZ, FC, op, FR, TO, GA, TL, DU, W, WF, NX, HD, KX, KF, KS, LA, TA, WA', QC, QX, BX, IF) (nI c) (nI (4 * f + 2 * l + (if t = 3 then 1 else 0)))) {post : SX → Prop}
    (hp : wX_sendFrom_133 post (nI c) (nI l) now (nI bf) (nI bs) CN' FB FZ FC op FR TO GA TL DU' W WF NX HD' KX KF KS LA TA WA' QC' QX' BX IF) : wX_sendFrom_74 post (nI s) (nI c) (nI t) (nI f) (nI l) now (nI bf) (nI bs) CN FB FZ FC op FR TO GA TL DU W WF NX HD KX KF KS LA TA WA QC QX BX IF := by
  have h101 : ∀ a b : Nat, a + b = 2 * l + (if t = 3 then 1 else 0) → wX_sendFrom_101 post (nI s) (nI c) (nI t) (nI l) (nI b) (nI f <<< ((2 : Int32) &&& 31) + nI a) now (nI bf) (nI bs) CN FB FZ FC op FR TO GA TL DU W WF NX HD KX KF KS LA TA WA QC QX BX IF := by
    intro a b hab
    unfold wX_sendFrom_101
    refine nm_r (cs_cell hf a b) (hL _ (br_f cs_10 ?_))
    rw [show 4 * f + a + b = 4 * f + 2 * l + (if t = 3 then 1 else 0) by omega]
    exact hE _ hp
  unfold wX_sendFrom_74 wX_sendFrom_90
  rcases (show l = 0 ∨ l = 1 by omega) with e | e
  · subst e
    refine br_t rfl ?_
    by_cases e3 : t = 3
    · subst e3
      exact br_t rfl (h101 0 1 rfl)
    · exact br_f (fun z => e3 (cs_nI_inj (b := 3) (by omega) (by decide) z)) (h101 0 0 (by rw [if_neg e3]))
  · subst e
    refine br_f cs_10 ?_
    by_cases e3 : t = 3
    · subst e3
      exact br_t rfl (h101 2 1 rfl)
    · exact br_f (fun z => e3 (cs_nI_inj (b := 3) (by omega) (by decide) z)) (h101 2 0 (by rw [if_neg e3]))
theorem cs_X133a {now : Int32} {bf bs : Nat} {CN FB FZ FC op FR TO GA TL DU W WF NX HD KX KF KS LA TA WA QC QX BX IF : Nat → Int32} {c : Nat} {post : SX → Prop} (hp : post (now, (nI bf), (nI bs), CN, FB, FZ, FC, op, FR, TO, GA, TL, DU, W, WF, NX, HD, KX, KF, KS, LA, TA, WA, QC, QX, BX, IF)) : wX_sendFrom_133 post (nI c) (nI 0) now (nI bf) (nI bs) CN FB FZ FC op FR TO GA TL DU W WF NX HD KX KF KS LA TA WA QC QX BX IF := br_t rfl hp
theorem cs_X133b {now : Int32} {bf bs : Nat} {CN FB FZ FC op FR TO GA TL DU W WF NX HD KX KF KS LA TA WA QC QX BX IF : Nat → Int32} {c w : Nat} (hc : c < 8) (hw : w < 2) (eW : W c = nI (w + 1)) {post : SX → Prop} (hp : post (now, (nI bf), (nI bs), CN, FB, FZ, FC, op, FR, TO, GA, TL, DU, upd W c (nI w), cs_mv WF 1 (2 * c) w, upd NX c 0, upd HD c 0, KX, KF, KS, LA, TA, WA, QC, QX, BX, IF)) : wX_sendFrom_133 post (nI c) (nI 1) now (nI bf) (nI bs) CN FB FZ FC op FR TO GA TL DU W WF NX HD KX KF KS LA TA WA QC QX BX IF := by
  have ic : vp_in (nI c) 8 := vp_in_nI hc (by decide)
  have ec : (nI c).toNatClampNeg = c := nI_clamp (by omega)
  have em : W c - 1 = nI w := by rw [eW]; exact nI_pred w
  unfold wX_sendFrom_133
  rw [ec, em, cs_m2]
  refine br_f cs_10 ⟨ic, ic, nm_e ⟨ic, ?_⟩⟩
  rw [pk_us]
  refine cs_mu0_WF (by omega) ?_
  unfold wpX_startNextFrame
  dsimp only
  rw [ec, cs_b0]
  exact ⟨ic, nm_e ⟨ic, nm_e hp⟩⟩
theorem cs_Ys1 {now : Int32} {bf bs : Nat} {CN BU op FR TO GA TL DU W WT NY KY KO KM KT NU CI LE SP BY LA HA CA WA QC QF QL QT BX BH BB : Nat → Int32} {s c p z m l : Nat} (hs : s < 4) (hc : c < 8) (hp64 : p < 64) (hz : z ≤ 27) (ep : WT (2 * c) = nI p) (ez : LE p = nI z) (em : NY c = nI m) (hm : m < (z + 12) / 8)
    (hl : (l = 0 ∧ m + 1 < (z + 12) / 8) ∨ (l = 1 ∧ (z + 12) / 8 ≤ m + 1)) (hN : ∀ post : Int32 → Prop, post (nI c) → wpY_nextCircuit post (now, (nI bs), (nI bf), CN, BU, op, FR, TO, GA, TL, DU, W, WT, NY, KY, KO, KM, KT, NU, CI, LE, SP, BY, LA, HA, CA, WA, QC, QF, QL, QT, BX, BH, BB) (nI s)) {post : SY → Prop}
    (hp : wY_sendFrom_56 post (nI s) (nI c) (nI p) (nI l) now (nI bs) (nI bf) CN BU op FR TO GA TL DU W WT (upd NY c (nI (m + 1))) KY KO KM KT NU CI LE SP BY (upd LA s (nI c)) HA CA WA QC QF QL QT BX BH BB) : wpY_sendFrom post (now, (nI bs), (nI bf), CN, BU, op, FR, TO, GA, TL, DU, W, WT, NY, KY, KO, KM, KT, NU, CI, LE, SP, BY, LA, HA, CA, WA, QC, QF, QL, QT, BX, BH, BB) (nI s) := by
  have is4 : vp_in (nI s) 4 := vp_in_nI hs (by decide)
  have es : (nI s).toNatClampNeg = s := nI_clamp (by omega)
  have ic : vp_in (nI c) 8 := vp_in_nI hc (by decide)
  have ec : (nI c).toNatClampNeg = c := nI_clamp (by omega)
  unfold wpY_sendFrom
  refine hN _ (br_t (nI_pos' (by omega)) ?_)
  rw [es, ec, cs_2m, nI_clamp (show 2 * c < 2 ^ 31 by omega), em, nI_1 m]
  refine ⟨is4, nm_e ⟨vp_in_nI (by omega) (by decide), nm_r ep ⟨ic, ic, nm_e ⟨ic, ?_⟩⟩⟩⟩
  refine cs_Ycells hp64 hz ez ?_
  rw [pk_us]
  rcases hl with ⟨rfl, hl⟩ | ⟨rfl, hl⟩
  · exact br_f (fun q => absurd (cs_nI_inj (by omega) (by omega) q) (by omega)) hp
  · exact br_t (congrArg nI (by omega)) hp
theorem cs_Y56a {now : Int32} {bf bs : Nat} {CN BU op FR TO GA TL DU W WT NY KY KO KM KT NU CI LE SP BY LA HA CA WA QC QF QL QT BX BH BB : Nat → Int32} {s c p : Nat} {x5 x6 : Int32} (hs : s < 4) (e5 : HA s = x5) (e6 : CA s = x6) {post : SY → Prop}
    (hp : wY_sendFrom_128 post (nI s) (nI c) (nI p) (nI 0) x5 x6 now (nI bs) (nI bf) CN BU op FR TO GA TL DU W WT NY KY KO KM KT NU CI LE SP BY LA (upd HA s 0) (upd CA s 0) WA QC QF QL QT BX BH BB) : wY_sendFrom_56 post (nI s) (nI c) (nI p) (nI 0) now (nI bs) (nI bf) CN BU op FR TO GA TL DU W WT NY KY KO KM KT NU CI LE SP BY LA HA CA WA QC QF QL QT BX BH BB := by
  have is4 : vp_in (nI s) 4 := vp_in_nI hs (by decide)
  have es : (nI s).toNatClampNeg = s := nI_clamp (by omega)
  unfold wY_sendFrom_56
  rw [es, cs_b0]
  exact ⟨is4, nm_r e5 ⟨is4, nm_r e6 ⟨is4, nm_e ⟨is4, nm_e (br_t rfl hp)⟩⟩⟩⟩
theorem cs_Y56b {now : Int32} {bf bs : Nat} {CN BU op FR TO GA TL DU W WT NY KY KO KM KT NU CI LE SP BY LA HA CA WA QC QF QL QT BX BH BB : Nat → Int32} {s c p w : Nat} {x5 x6 : Int32} (hs : s < 4) (hc : c < 8) (eW : W c = nI (w + 1)) (e5 : HA s = x5) (e6 : CA s = x6) {post : SY → Prop}
    (hp : wY_sendFrom_128 post (nI s) (nI c) (nI p) (nI 1) x5 x6 now (nI bs) (nI bf) CN BU op FR TO GA TL DU (upd W c (nI w)) (upd WT (2 * c) (WT (2 * c + 1))) (upd NY c 0) KY KO KM KT NU CI LE SP BY LA (upd HA s 0) (upd CA s 0) WA QC QF QL QT BX BH BB) : wY_sendFrom_56 post (nI s) (nI c) (nI p) (nI 1) now (nI bs) (nI bf) CN BU op FR TO GA TL DU W WT NY KY KO KM KT NU CI LE SP BY LA HA CA WA QC QF QL QT BX BH BB := by
  have is4 : vp_in (nI s) 4 := vp_in_nI hs (by decide)
  have es : (nI s).toNatClampNeg = s := nI_clamp (by omega)
  have ic : vp_in (nI c) 8 := vp_in_nI hc (by decide)
  have ec : (nI c).toNatClampNeg = c := nI_clamp (by omega)
  have em : W c - 1 = nI w := by rw [eW]; exact nI_pred w
  unfold wY_sendFrom_56
  rw [es, ec, em, cs_b0, cs_2m, nI_1 (2 * c), nI_clamp (show 2 * c < 2 ^ 31 by omega), nI_clamp (show 2 * c + 1 < 2 ^ 31 by omega)]
  refine ⟨is4, nm_r e5 ⟨is4, nm_r e6 ⟨is4, nm_e ⟨is4, nm_e (br_f cs_10 ?_)⟩⟩⟩⟩
  exact ⟨vp_in_nI (by omega) (by decide), vp_in_nI (by omega) (by decide), nm_e ⟨ic, ic, nm_e ⟨ic, nm_e hp⟩⟩⟩
theorem cs_Y128l {now : Int32} {bf bs : Nat} {CN BU op FR TO GA TL DU W WT NY KY KO KM KT NU CI LE SP BY LA HA CA WA QC QF QL QT BX BH BB : Nat → Int32} {WA' : Nat → Int32} {s : Nat} {x2 x3 x4 x5 x6 : Int32} (hL : ∀ post : Int32 → SY → Prop, post 1 (now, (nI bs), (nI bf), CN, BU, op, FR, TO, GA, TL, DU, W, WT, NY, KY, KO, KM, KT, NU, CI, LE, SP, BY, LA, HA, CA, WA', QC, QF, QL, QT, BX, BH, BB) → wpY_isLost post (now, (nI bs), (nI bf), CN, BU, op, FR, TO, GA, TL, DU, W, WT, NY, KY, KO, KM, KT, NU, CI, LE, SP, BY, LA, HA, CA, WA, QC, QF, QL, QT, BX, BH, BB) (nI s) x5) {post : SY → Prop}
    (hp : post (now, (nI bs), (nI bf), upd CN 3 (CN 3 + 1), BU, op, FR, TO, GA, TL, DU, W, WT, NY, KY, KO, KM, KT, NU, CI, LE, SP, BY, LA, HA, CA, WA', QC, QF, QL, QT, BX, BH, BB)) : wY_sendFrom_128 post (nI s) x2 x3 x4 x5 x6 now (nI bs) (nI bf) CN BU op FR TO GA TL DU W WT NY KY KO KM KT NU CI LE SP BY LA HA CA WA QC QF QL QT BX BH BB := by
  unfold wY_sendFrom_128
  exact hL _ (br_f cs_10 (nm_e hp))
theorem cs_Y128p {now : Int32} {bf bs : Nat} {CN BU op FR TO GA TL DU W WT NY KY KO KM KT NU CI LE SP BY LA HA CA WA QC QF QL QT BX BH BB : Nat → Int32} {WA' CN' DU' SP' QC' QF' QL' QT' : Nat → Int32} {s : Nat} {x2 x3 x4 x5 x6 : Int32} (hL : ∀ post : Int32 → SY → Prop, post 0 (now, (nI bs), (nI bf), CN, BU, op, FR, TO, GA, TL, DU, W, WT, NY, KY, KO, KM, KT, NU, CI, LE, SP, BY, LA, HA, CA, WA', QC, QF, QL, QT, BX, BH, BB) → wpY_isLost post (now, (nI bs), (nI bf), CN, BU, op, FR, TO, GA, TL, DU, W, WT, NY, KY, KO, KM, KT, NU, CI, LE, SP, BY, LA, HA, CA, WA, QC, QF, QL, QT, BX, BH, BB) (nI s) x5)
    (hE : ∀ post : SY → Prop, post (now, (nI bs), (nI bf), CN', BU, op, FR, TO, GA, TL, DU', W, WT, NY, KY, KO, KM, KT, NU, CI, LE, SP', BY, LA, HA, CA, WA', QC', QF', QL', QT', BX, BH, BB) → wpY_comeToSwitch post (now, (nI bs), (nI bf), CN, BU, op, FR, TO, GA, TL, DU, W, WT, NY, KY, KO, KM, KT, NU, CI, LE, SP, BY, LA, HA, CA, WA', QC, QF, QL, QT, BX, BH, BB) x2 x3 x4 x6) {post : SY → Prop}
    (hp : post (now, (nI bs), (nI bf), CN', BU, op, FR, TO, GA, TL, DU', W, WT, NY, KY, KO, KM, KT, NU, CI, LE, SP', BY, LA, HA, CA, WA', QC', QF', QL', QT', BX, BH, BB)) : wY_sendFrom_128 post (nI s) x2 x3 x4 x5 x6 now (nI bs) (nI bf) CN BU op FR TO GA TL DU W WT NY KY KO KM KT NU CI LE SP BY LA HA CA WA QC QF QL QT BX BH BB := by
  unfold wY_sendFrom_128
  exact hL _ (br_t rfl (hE _ hp))
theorem cs_sendFrom {k s : Nat} {u : SX} {v : SY} (I : i_Rel k u v) (hs : s < 4) : ∃ u' v', i_Rel k u' v' ∧ (∀ post : SX → Prop, post u' → wpX_sendFrom post u (nI s)) ∧ (∀ post : SY → Prop, post v' → wpY_sendFrom post v (nI s)) := by
  obtain ⟨now, bf, bs, CN, FB, FZ, FC, op, FR, TO, GA, TL, DU, W, WF, NX, HD, KX, KF, KS, LA, TA, WA, QC, QX, BX, IF, BU, WT, NY, KY, KO, KM, KT, NU, CI, LE, SP, BY, HA, CA, QF, QL, QT, BH, BB, rfl, rfl, h1, h2, h3, h4, h5, h6, h7, h8, h9, h10, h11⟩ := I
  rcases @cs_next0 now bf bs CN FB FZ FC op FR TO GA TL DU W WF NX HD KX KF KS LA TA WA QC QX BX IF BU WT NY KY KO KM KT NU CI LE SP BY HA CA QF QL QT BH BB s hs h5 h10 with ⟨c, hc, hW0, hNX, hNY⟩ | ⟨hNX, hNY⟩
  rotate_left
  · refine ⟨(now, (nI bf), (nI bs), CN, FB, FZ, FC, op, FR, TO, GA, TL, DU, W, WF, NX, HD, KX, KF, KS, LA, TA, WA, QC, QX, BX, IF), (now, (nI bs), (nI bf), CN, BU, op, FR, TO, GA, TL, DU, W, WT, NY, KY, KO, KM, KT, NU, CI, LE, SP, BY, LA, HA, CA, WA, QC, QF, QL, QT, BX, BH, BB), cs_mk h1 h2 h3 h4 h5 h6 h7 h8 h9 h10 h11, fun post hp => ?_, fun post hp => ?_⟩
    · unfold wpX_sendFrom
      exact hNX _ (br_t rfl hp)
    · unfold wpY_sendFrom
      exact hNY _ (br_f (by decide) hp)
  obtain ⟨ho, w, f, p, z, m, hw, eW, hW1, hW2⟩ := cs_W_get h5 hc hW0
  have hW1' := hW1
  obtain ⟨b1, b2, b3, b4, b5, b6, b7⟩ := hW1'
  have b3' := b3
  obtain ⟨f1, f2, f3, f4, f5, f6, f7, f8, f9, f10, f11⟩ := b3'
  obtain ⟨t, ht, et, eh, ect⟩ := h9 s hs
  have h10' : cs_L 4 (upd LA s (nI c)) 8 := cs_L_u h10 hc rfl
  have h9' : cs_T (upd TA s 0) (upd HA s 0) (upd CA s 0) := cs_T_0 h9 (t := 0) (by omega) rfl rfl rfl
  by_cases hlast : m + 1 < (z + 12) / 8
  · have hl : ((0 : Nat) = 0 ∧ m + 1 < (z + 12) / 8) ∨ ((0 : Nat) = 1 ∧ (z + 12) / 8 ≤ m + 1) := Or.inl ⟨rfl, hlast⟩
    obtain ⟨wv, ⟨lX, lY⟩ | ⟨lX, lY⟩⟩ := @cs_line now bf bs CN FB FZ FC op FR TO GA TL DU W WF (upd NX c (nI (m + 1))) HD KX KF KS (upd LA s (nI c)) (upd TA s 0) WA QC QX BX IF BU WT (upd NY c (nI (m + 1))) KY KO KM KT NU CI LE SP BY (upd HA s 0) (upd CA s 0) QF QL QT BH BB W s t hs ht
    · refine ⟨(now, (nI bf), (nI bs), upd CN 3 (CN 3 + 1), FB, FZ, FC, op, FR, TO, GA, TL, DU, W, WF, upd NX c (nI (m + 1)), HD, KX, KF, KS, upd LA s (nI c), upd TA s 0, upd WA s wv, QC, QX, BX, IF), (now, (nI bs), (nI bf), upd CN 3 (CN 3 + 1), BU, op, FR, TO, GA, TL, DU, W, WT, upd NY c (nI (m + 1)), KY, KO, KM, KT, NU, CI, LE, SP, BY, upd LA s (nI c), upd HA s 0, upd CA s 0, upd WA s wv, QC, QF, QL, QT, BX, BH, BB), cs_mk h1 h2 h3 h4 (cs_send1 (by omega) h5 hc ho hw eW hW1 hW2 (Or.inl ⟨rfl, rfl⟩) hlast) h6 h7 h8 h9' h10' h11, fun post hp => ?_, fun post hp => ?_⟩
      · exact cs_Xs1 hs hc (by omega) f5 et b1 f9 b4 (by omega) hl hNX (cs_Xs2l (by omega) (by omega) ht lX (cs_X133a hp))
      · exact cs_Ys1 hs hc f1 f5 b2 f10 b5 b6 hl hNY (cs_Y56a hs eh ect (cs_Y128l lY hp))
    · obtain ⟨CN', DU', HD', SP', QC', QX', QF', QL', QT', k1, k2, k3, k4⟩ := @cs_enter now bf bs CN FB FZ FC op FR TO GA TL DU W WF (upd NX c (nI (m + 1))) HD KX KF KS (upd LA s (nI c)) (upd TA s 0) (upd WA s wv) QC QX BX IF BU WT (upd NY c (nI (m + 1))) KY KO KM KT NU CI LE SP BY (upd HA s 0) (upd CA s 0) QF QL QT BH BB W c f p z 0 (if t = 3 then 1 else 0) h1 hc (by omega) (by split <;> omega) b3 ho b7 h7 h11
      refine ⟨(now, (nI bf), (nI bs), CN', FB, FZ, FC, op, FR, TO, GA, TL, DU', W, WF, upd NX c (nI (m + 1)), HD', KX, KF, KS, upd LA s (nI c), upd TA s 0, upd WA s wv, QC', QX', BX, IF), (now, (nI bs), (nI bf), CN', BU, op, FR, TO, GA, TL, DU', W, WT, upd NY c (nI (m + 1)), KY, KO, KM, KT, NU, CI, LE, SP', BY, upd LA s (nI c), upd HA s 0, upd CA s 0, upd WA s wv, QC', QF', QL', QT', BX, BH, BB), cs_mk h1 h2 h3 h4 (cs_send1 (by omega) h5 hc ho hw eW hW1 hW2 k1 hlast) h6 k2 h8 h9' h10' h11, fun post hp => ?_, fun post hp => ?_⟩
      · exact cs_Xs1 hs hc (by omega) f5 et b1 f9 b4 (by omega) hl hNX (cs_Xs2p (by omega) (by omega) ht lX k3 (cs_X133a hp))
      · exact cs_Ys1 hs hc f1 f5 b2 f10 b5 b6 hl hNY (cs_Y56a hs eh ect (cs_Y128p lY k4 hp))
  · have hl : ((1 : Nat) = 0 ∧ m + 1 < (z + 12) / 8) ∨ ((1 : Nat) = 1 ∧ (z + 12) / 8 ≤ m + 1) := Or.inr ⟨rfl, by omega⟩
    obtain ⟨wv, ⟨lX, lY⟩ | ⟨lX, lY⟩⟩ := @cs_line now bf bs CN FB FZ FC op FR TO GA TL DU W WF (upd NX c (nI (m + 1))) HD KX KF KS (upd LA s (nI c)) (upd TA s 0) WA QC QX BX IF BU (upd WT (2 * c) (WT (2 * c + 1))) (upd (upd NY c (nI (m + 1))) c 0) KY KO KM KT NU CI LE SP BY (upd HA s 0) (upd CA s 0) QF QL QT BH BB (upd W c (nI w)) s t hs ht
    · refine ⟨(now, (nI bf), (nI bs), upd CN 3 (CN 3 + 1), FB, FZ, FC, op, FR, TO, GA, TL, DU, upd W c (nI w), cs_mv WF 1 (2 * c) w, upd (upd NX c (nI (m + 1))) c 0, upd HD c 0, KX, KF, KS, upd LA s (nI c), upd TA s 0, upd WA s wv, QC, QX, BX, IF), (now, (nI bs), (nI bf), upd CN 3 (CN 3 + 1), BU, op, FR, TO, GA, TL, DU, upd W c (nI w), upd WT (2 * c) (WT (2 * c + 1)), upd (upd NY c (nI (m + 1))) c 0, KY, KO, KM, KT, NU, CI, LE, SP, BY, upd LA s (nI c), upd HA s 0, upd CA s 0, upd WA s wv, QC, QF, QL, QT, BX, BH, BB), cs_mk h1 h2 h3 h4 (cs_send2 (x := nI (m + 1)) (y := nI (m + 1)) (by omega) h5 hc ho hw hW1 hW2 (Or.inl ⟨rfl, rfl⟩)) h6 h7 h8 h9' h10' h11, fun post hp => ?_, fun post hp => ?_⟩
      · exact cs_Xs1 hs hc (by omega) f5 et b1 f9 b4 (by omega) hl hNX (cs_Xs2l (by omega) (by omega) ht lX (cs_X133b hc hw eW hp))
      · exact cs_Ys1 hs hc f1 f5 b2 f10 b5 b6 hl hNY (cs_Y56b hs hc eW eh ect (cs_Y128l lY hp))
    · obtain ⟨CN', DU', HD', SP', QC', QX', QF', QL', QT', k1, k2, k3, k4⟩ := @cs_enter now bf bs CN FB FZ FC op FR TO GA TL DU W WF (upd NX c (nI (m + 1))) HD KX KF KS (upd LA s (nI c)) (upd TA s 0) (upd WA s wv) QC QX BX IF BU (upd WT (2 * c) (WT (2 * c + 1))) (upd (upd NY c (nI (m + 1))) c 0) KY KO KM KT NU CI LE SP BY (upd HA s 0) (upd CA s 0) QF QL QT BH BB (upd W c (nI w)) c f p z 1 (if t = 3 then 1 else 0) h1 hc (by omega) (by split <;> omega) b3 ho b7 h7 h11
      refine ⟨(now, (nI bf), (nI bs), CN', FB, FZ, FC, op, FR, TO, GA, TL, DU', upd W c (nI w), cs_mv WF 1 (2 * c) w, upd (upd NX c (nI (m + 1))) c 0, upd HD' c 0, KX, KF, KS, upd LA s (nI c), upd TA s 0, upd WA s wv, QC', QX', BX, IF), (now, (nI bs), (nI bf), CN', BU, op, FR, TO, GA, TL, DU', upd W c (nI w), upd WT (2 * c) (WT (2 * c + 1)), upd (upd NY c (nI (m + 1))) c 0, KY, KO, KM, KT, NU, CI, LE, SP', BY, upd LA s (nI c), upd HA s 0, upd CA s 0, upd WA s wv, QC', QF', QL', QT', BX, BH, BB), cs_mk h1 h2 h3 h4 (cs_send2 (x := nI (m + 1)) (y := nI (m + 1)) (by omega) h5 hc ho hw hW1 hW2 k1) h6 k2 h8 h9' h10' h11, fun post hp => ?_, fun post hp => ?_⟩
      · exact cs_Xs1 hs hc (by omega) f5 et b1 f9 b4 (by omega) hl hNX (cs_Xs2p (by omega) (by omega) ht lX k3 (cs_X133b hc hw eW hp))
      · exact cs_Ys1 hs hc f1 f5 b2 f10 b5 b6 hl hNY (cs_Y56b hs hc eW eh ect (cs_Y128p lY k4 hp))
end
section
/-! what is kept, over one cell -/
theorem cs_K_keep {op KX KY KF KO KS KM KT KF' KO' : Nat → Int32} {c f t : Nat} (h6 : cs_K op KX KY KF KO KS KM KT) (ho : op c ≠ 0) (hc : c < 8) (hF : ∀ j, j ≠ c → KF' j = KF j) (hO : ∀ j, j ≠ c → KO' j = KO j)
    (hfo : KO' c = KF' c + 1) : cs_K op (upd KX c (KX c + 1)) (upd KY c (KY c + 1)) KF' KO' (if KF' c = nI f ∧ t = 0 then KS else upd KS c 1) (upd KM c (if KM c = 0 ∧ KO' c = nI (f + 1) then 0 else 1)) (upd KT c (if KT c = 0 ∧ t = 0 then 0 else 1)) := by
  obtain ⟨g1, g2, g3⟩ := (h6 c hc).2 ho
  have hiff : KO' c = nI (f + 1) ↔ KF' c = nI f := by
    rw [hfo, ← nI_1]
    exact Int32.add_left_inj 1
  refine cs_K_at h6 ho (fun j e => pk_un e) (fun j e => pk_un e) hF hO ?_ (fun j e => pk_un e) (fun j e => pk_un e) ?_ (fun _ => hfo) ?_
  · intro j e
    split
    · rfl
    · exact pk_un e
  · rw [pk_us, pk_us, g1]
  · rw [pk_us, pk_us]
    by_cases q : KF' c = nI f ∧ t = 0
    · rw [if_pos q, g3]
      have q2 := hiff.mpr q.1
      constructor
      · intro ⟨a, b⟩
        rw [if_pos ⟨a, q2⟩, if_pos ⟨b, q.2⟩]
        exact ⟨rfl, rfl⟩
      · intro ⟨a, b⟩
        constructor
        · by_cases z : KM c = 0
          · exact z
          · rw [if_neg (fun y => z y.1)] at a
            exact absurd a cs_10
        · by_cases z : KT c = 0
          · exact z
          · rw [if_neg (fun y => z y.1)] at b
            exact absurd b cs_10
    · rw [if_neg q, pk_us]
      constructor
      · intro a
        exact absurd a cs_10
      · intro ⟨a, b⟩
        exfalso
        by_cases z : t = 0
        · rw [if_neg (fun y => q ⟨hiff.mp y.2, z⟩)] at a
          exact cs_10 a
        · rw [if_neg (fun y => z y.2)] at b
          exact cs_10 b
theorem cs_K_forget {op KX KY KF KO KS KM KT : Nat → Int32} {c : Nat} (h : cs_K op KX KY KF KO KS KM KT) (ho : op c ≠ 0) : cs_K op (upd KX c 0) (upd KY c 0) KF KO (upd KS c 0) (upd KM c 0) (upd KT c 0) :=
  cs_K_at h ho (fun j e => pk_un e) (fun j e => pk_un e) (fun j e => rfl) (fun j e => rfl) (fun j e => pk_un e) (fun j e => pk_un e) (fun j e => pk_un e)
    (by rw [pk_us, pk_us]) (fun z => absurd pk_us z) (by rw [pk_us, pk_us, pk_us]; exact ⟨fun _ => ⟨rfl, rfl⟩, fun _ => rfl⟩)
/-! X keeps a cell -/
theorem cs_Xk27 {now : Int32} {bf bs : Nat} {CN FB FZ FC op FR TO GA TL DU W WF NX HD KX KF KS LA TA WA QC QX BX IF : Nat → Int32} {f l t c : Nat} (hf : f < 256) (hl : l ≤ 1) (ht : t ≤ 1) (hc : c < 8) {post : SX → Prop} (hp : post (now, (nI bf), (nI bs), CN, FB, FZ, FC, op, FR, TO, GA, TL, DU, W, WF, NX, HD, upd KX c (KX c + 1), KF, (if KF c = nI f ∧ t = 0 then KS else upd KS c 1), LA, TA, WA, QC, QX, BX, IF)) :
    wX_keep_27 post (nI (4 * f + 2 * l + t)) (nI f) (nI c) now (nI bf) (nI bs) CN FB FZ FC op FR TO GA TL DU W WF NX HD KX KF KS LA TA WA QC QX BX IF := by
  have ic : vp_in (nI c) 8 := vp_in_nI hc (by decide)
  have ec : (nI c).toNatClampNeg = c := nI_clamp (by omega)
  unfold wX_keep_27 wX_keep_43 wX_keep_50
  rw [ec, cs_and1 f hf l (by omega) t (by omega), cs_b1]
  by_cases q : KF c = nI f
  · by_cases z : t = 0
    · subst z
      rw [if_pos ⟨q, rfl⟩] at hp
      exact ⟨ic, br_t q (br_t rfl ⟨ic, ic, nm_e hp⟩)⟩
    · rw [if_neg (fun y => z y.2)] at hp
      exact ⟨ic, br_t q (br_f (nI_ne0 (by omega) (by omega)) ⟨ic, nm_e ⟨ic, ic, nm_e hp⟩⟩)⟩
  · rw [if_neg (fun y => q y.1)] at hp
    exact ⟨ic, br_f q ⟨ic, nm_e ⟨ic, ic, nm_e hp⟩⟩⟩
theorem cs_Xkeep {now : Int32} {bf bs : Nat} {CN FB FZ FC op FR TO GA TL DU W WF NX HD KX KF KS LA TA WA QC QX BX IF : Nat → Int32} {KF' : Nat → Int32} {f l t c : Nat} (hf : f < 256) (hl : l ≤ 1) (ht : t ≤ 1) (hc : c < 8) (ef : FC f = nI c) (hF : (KX c = 0 ∧ KF' = upd KF c (nI f)) ∨ (¬ KX c = 0 ∧ KF' = KF)) {post : SX → Prop}
    (hp : post (now, (nI bf), (nI bs), CN, FB, FZ, FC, op, FR, TO, GA, TL, DU, W, WF, NX, HD, upd KX c (KX c + 1), KF', (if KF' c = nI f ∧ t = 0 then KS else upd KS c 1), LA, TA, WA, QC, QX, BX, IF)) :
    wpX_keep post (now, (nI bf), (nI bs), CN, FB, FZ, FC, op, FR, TO, GA, TL, DU, W, WF, NX, HD, KX, KF, KS, LA, TA, WA, QC, QX, BX, IF) (nI (4 * f + 2 * l + t)) := by
  have ic : vp_in (nI c) 8 := vp_in_nI hc (by decide)
  have ec : (nI c).toNatClampNeg = c := nI_clamp (by omega)
  have ifr : vp_in (nI f) 256 := vp_in_nI hf (by decide)
  unfold wpX_keep
  dsimp only
  rw [cs_shr hf hl ht]
  refine nm_e ⟨ifr, ?_⟩
  rw [nI_clamp (show f < 2 ^ 31 by omega), ef]
  refine nm_e ⟨ic, ?_⟩
  rw [ec]
  rcases hF with ⟨q, rfl⟩ | ⟨q, rfl⟩
  · exact br_t q ⟨ic, nm_e (cs_Xk27 hf hl ht hc hp)⟩
  · exact br_f q (cs_Xk27 hf hl ht hc hp)
/-! X ends a frame -/
theorem cs_X35a {now : Int32} {bf bs : Nat} {CN FB FZ FC op FR TO GA TL DU W WF NX HD KX KF KS LA TA WA QC QX BX IF : Nat → Int32} {s f c : Nat} (hc : c < 8) {post : SX → Prop} (hp : post (now, (nI bf), (nI bs), upd CN 5 (CN 5 + 1), FB, FZ, FC, op, FR, TO, GA, TL, DU, W, WF, NX, HD, upd KX c 0, KF, upd KS c 0, LA, TA, WA, QC, QX, BX, IF)) : wX_endFrame_35 post (nI s) (nI f) (nI c) 0 now (nI bf) (nI bs) CN FB FZ FC op FR TO GA TL DU W WF NX HD KX KF KS LA TA WA QC QX BX IF := by
  have ic : vp_in (nI c) 8 := vp_in_nI hc (by decide)
  have ec : (nI c).toNatClampNeg = c := nI_clamp (by omega)
  unfold wX_endFrame_35 wpX_keepNothing
  dsimp only
  rw [ec, cs_b0]
  exact ⟨ic, nm_e ⟨ic, nm_e (br_t rfl (nm_e hp))⟩⟩
theorem cs_X35b {now : Int32} {bf bs : Nat} {CN FB FZ FC op FR TO GA TL DU W WF NX HD KX KF KS LA TA WA QC QX BX IF : Nat → Int32} {s f c : Nat} (hs : s < 4) (hc : c < 8) (eb : BX s = nI 4) {post : SX → Prop} (hp : post (now, (nI bf), (nI bs), upd CN 6 (CN 6 + 1), FB, FZ, FC, op, FR, TO, GA, TL, DU, W, WF, NX, HD, upd KX c 0, KF, upd KS c 0, LA, TA, WA, QC, QX, BX, IF)) : wX_endFrame_35 post (nI s) (nI f) (nI c) 1 now (nI bf) (nI bs) CN FB FZ FC op FR TO GA TL DU W WF NX HD KX KF KS LA TA WA QC QX BX IF := by
  have ic : vp_in (nI c) 8 := vp_in_nI hc (by decide)
  have ec : (nI c).toNatClampNeg = c := nI_clamp (by omega)
  have is4 : vp_in (nI s) 4 := vp_in_nI hs (by decide)
  have es : (nI s).toNatClampNeg = s := nI_clamp (by omega)
  unfold wX_endFrame_35 wpX_keepNothing
  dsimp only
  rw [ec, es, eb, cs_b0]
  exact ⟨ic, nm_e ⟨ic, nm_e (br_f cs_10 ⟨is4, br_t rfl (nm_e hp)⟩)⟩⟩
theorem cs_X35c {now : Int32} {bf bs : Nat} {CN FB FZ FC op FR TO GA TL DU W WF NX HD KX KF KS LA TA WA QC QX BX IF : Nat → Int32} {s f c b : Nat} (hs : s < 4) (hc : c < 8) (hb : b < 4) (eb : BX s = nI b) {post : SX → Prop}
    (hp : post (now, (nI bf), (nI bs), upd CN 4 (CN 4 + 1), FB, FZ, FC, op, FR, TO, GA, TL, DU, W, WF, NX, HD, upd KX c 0, KF, upd KS c 0, LA, TA, WA, QC, QX, upd BX s (nI (b + 1)), upd IF (4 * s + b) (nI f))) : wX_endFrame_35 post (nI s) (nI f) (nI c) 1 now (nI bf) (nI bs) CN FB FZ FC op FR TO GA TL DU W WF NX HD KX KF KS LA TA WA QC QX BX IF := by
  have ic : vp_in (nI c) 8 := vp_in_nI hc (by decide)
  have ec : (nI c).toNatClampNeg = c := nI_clamp (by omega)
  have is4 : vp_in (nI s) 4 := vp_in_nI hs (by decide)
  have es : (nI s).toNatClampNeg = s := nI_clamp (by omega)
  have n4 : ¬ nI b = 4 := fun z => absurd (cs_nI_inj (b := 4) (by omega) (by decide) z) (by omega)
  unfold wX_endFrame_35 wpX_keepNothing
  dsimp only
  rw [ec, es, eb, cs_b0, cs_m4, nI_add, nI_clamp (show 4 * s + b < 2 ^ 31 by omega), nI_1 b]
  exact ⟨ic, nm_e ⟨ic, nm_e (br_f cs_10 ⟨is4, br_f n4 ⟨is4, vp_in_nI (by omega) (by decide), nm_e ⟨is4, is4, nm_e (nm_e hp)⟩⟩⟩)⟩⟩
theorem cs_Xend {now : Int32} {bf bs : Nat} {CN FB FZ FC op FR TO GA TL DU W WF NX HD KX KF KS LA TA WA QC QX BX IF : Nat → Int32} {s f c z : Nat} (hf : f < 256) (hc : c < 8) (hz : z ≤ 27) (ef : FC f = nI c) (ez : FZ f = nI z) {post : SX → Prop}
    (hg : (KS c = 0 ∧ KX c = nI ((z + 12) / 8)) → wX_endFrame_35 post (nI s) (nI f) (nI c) 1 now (nI bf) (nI bs) CN FB FZ FC op FR TO GA TL DU W WF NX HD KX KF KS LA TA WA QC QX BX IF) (hb : ¬ (KS c = 0 ∧ KX c = nI ((z + 12) / 8)) → wX_endFrame_35 post (nI s) (nI f) (nI c) 0 now (nI bf) (nI bs) CN FB FZ FC op FR TO GA TL DU W WF NX HD KX KF KS LA TA WA QC QX BX IF) :
    wpX_endFrame post (now, (nI bf), (nI bs), CN, FB, FZ, FC, op, FR, TO, GA, TL, DU, W, WF, NX, HD, KX, KF, KS, LA, TA, WA, QC, QX, BX, IF) (nI s) (nI f) := by
  have ic : vp_in (nI c) 8 := vp_in_nI hc (by decide)
  have ec : (nI c).toNatClampNeg = c := nI_clamp (by omega)
  have ifr : vp_in (nI f) 256 := vp_in_nI hf (by decide)
  unfold wpX_endFrame wX_endFrame_34
  dsimp only
  rw [nI_clamp (show f < 2 ^ 31 by omega), ef]
  refine ⟨ifr, nm_e ⟨ic, ?_⟩⟩
  rw [ec]
  by_cases q : KS c = 0
  · refine br_t q ⟨ic, cs_Xcells hf hz ez ?_⟩
    by_cases q2 : KX c = nI ((z + 12) / 8)
    · exact br_t q2 (hg ⟨q, q2⟩)
    · exact br_f q2 (hb (fun y => q2 y.2))
  · exact br_f q (hb (fun y => q y.1))
theorem cs_Xdel {now : Int32} {bf bs : Nat} {CN FB FZ FC op FR TO GA TL DU W WF NX HD KX KF KS LA TA WA QC QX BX IF : Nat → Int32} {s n f l t : Nat} (hs : s < 4) (hn : n < 6) (hf : f < 256) (hl : l ≤ 1) (ht : t ≤ 1) (en : QC s = nI (n + 1)) (eq : QX (6 * s) = nI (4 * f + 2 * l + t)) {u' : SX} {post : SX → Prop}
    (hk : ∀ post : SX → Prop, post u' → wpX_keep post (now, (nI bf), (nI bs), CN, FB, FZ, FC, op, FR, TO, GA, TL, DU, W, WF, NX, HD, KX, KF, KS, LA, TA, WA, upd QC s (nI n), cs_mv QX 1 (6 * s) n, BX, IF) (nI (4 * f + 2 * l + t)))
    (h0 : l = 0 → post u') (h1 : l = 1 → wpX_endFrame post u' (nI s) (nI f)) : wpX_deliverTo post (now, (nI bf), (nI bs), CN, FB, FZ, FC, op, FR, TO, GA, TL, DU, W, WF, NX, HD, KX, KF, KS, LA, TA, WA, QC, QX, BX, IF) (nI s) := by
  have is4 : vp_in (nI s) 4 := vp_in_nI hs (by decide)
  have es : (nI s).toNatClampNeg = s := nI_clamp (by omega)
  have em : QC s - 1 = nI n := by rw [en]; exact nI_pred n
  have e0 : ¬ QC s = 0 := by rw [en]; exact nI_ne0 (by omega) (by omega)
  unfold wpX_deliverTo
  dsimp only
  rw [es, em, cs_m6]
  refine ⟨is4, br_f e0 (nm_e ⟨vp_in_nI (by omega) (by decide), ?_⟩)⟩
  rw [nI_clamp (show 6 * s < 2 ^ 31 by omega), eq]
  refine nm_e ⟨is4, is4, nm_e ⟨is4, ?_⟩⟩
  rw [pk_us]
  refine cs_mu0_QX (by omega) ?_
  refine hk _ ?_
  rw [cs_and2 f hf l (by omega) t (by omega), cs_shr hf hl ht]
  rcases (show l = 0 ∨ l = 1 by omega) with e | e
  · subst e
    exact br_t rfl (h0 rfl)
  · subst e
    exact br_f (by decide) (h1 rfl)
/-! Y keeps a frame, ends a frame -/
theorem cs_Ykf {now : Int32} {bf bs : Nat} {CN BU op FR TO GA TL DU W WT NY KY KO KM KT NU CI LE SP BY LA HA CA WA QC QF QL QT BX BH BB : Nat → Int32} {s p a b : Nat} (hs : s < 4) (hp64 : p < 64) (ha : a < 16) (eb : BX s = nI b) : ∀ d i, i + d = 27 → ∀ post : SY → Prop,
    post (now, (nI bs), (nI bf), upd CN 4 (CN 4 + 1), BU, op, FR, TO, GA, TL, DU, W, WT, NY, KY, KO, KM, KT, NU, CI, LE, SP, BY, LA, HA, CA, WA, QC, QF, QL, QT, upd BX s (nI (b + 1)), BH, cs_cp BB (27 * a) (fun i => BY (27 * p + i)) 27) →
    wY_keepFrame_58 post (nI s) (nI p) (nI a) now (nI bs) (nI bf) (d + 1) (nI i) CN BU op FR TO GA TL DU W WT NY KY KO KM KT NU CI LE SP BY LA HA CA WA QC QF QL QT BX BH (cs_cp BB (27 * a) (fun i => BY (27 * p + i)) i) := by
  have is4 : vp_in (nI s) 4 := vp_in_nI hs (by decide)
  have es : (nI s).toNatClampNeg = s := nI_clamp (by omega)
  intro d
  induction d with
  | zero =>
    intro i hi post hp
    have e : i = 27 := by omega
    subst e
    refine br_t (Int32.le_refl _) ?_
    rw [es, eb, nI_1 b]
    exact ⟨is4, is4, nm_e (nm_e hp)⟩
  | succ d ih =>
    intro i hi post hp
    refine br_f (nI_ge (b := 27) (by omega) (by decide)) ?_
    rw [cs_27m, cs_27m, nI_add, nI_add, nI_clamp (show 27 * p + i < 2 ^ 31 by omega), nI_clamp (show 27 * a + i < 2 ^ 31 by omega)]
    exact ⟨vp_in_nI (by omega) (by decide), vp_in_nI (by omega) (by decide), nm_r (cs_cp_s BB (27 * a) (fun i => BY (27 * p + i)) i) (nm_r (nI_1 i) (ih (i + 1) (by omega) post hp))⟩
theorem cs_Ykeep {now : Int32} {bf bs : Nat} {CN BU op FR TO GA TL DU W WT NY KY KO KM KT NU CI LE SP BY LA HA CA WA QC QF QL QT BX BH BB : Nat → Int32} {s p c z b : Nat} (hs : s < 4) (hp64 : p < 64) (hb : b < 4) (eb : BX s = nI b) (ec : CI p = nI c) (ez : LE p = nI z) {post : SY → Prop}
    (hp : post (now, (nI bs), (nI bf), upd CN 4 (CN 4 + 1), BU, op, FR, TO, GA, TL, DU, W, WT, NY, KY, KO, KM, KT, NU, CI, LE, SP, BY, LA, HA, CA, WA, QC, QF, QL, QT, upd BX s (nI (b + 1)), upd BH (4 * s + b) (nI (32 * c + z)), cs_cp BB (27 * (4 * s + b)) (fun i => BY (27 * p + i)) 27)) : wpY_keepFrame post (now, (nI bs), (nI bf), CN, BU, op, FR, TO, GA, TL, DU, W, WT, NY, KY, KO, KM, KT, NU, CI, LE, SP, BY, LA, HA, CA, WA, QC, QF, QL, QT, BX, BH, BB) (nI s) (nI p) := by
  have is4 : vp_in (nI s) 4 := vp_in_nI hs (by decide)
  have es : (nI s).toNatClampNeg = s := nI_clamp (by omega)
  have ip : vp_in (nI p) 64 := vp_in_nI hp64 (by decide)
  have n4 : ¬ nI b = 4 := fun z => absurd (cs_nI_inj (b := 4) (by omega) (by decide) z) (by omega)
  have h := @cs_Ykf now bf bs CN BU op FR TO GA TL DU W WT NY KY KO KM KT NU CI LE SP BY LA HA CA WA QC QF QL QT BX (upd BH (4 * s + b) (nI (32 * c + z))) BB s p (4 * s + b) b hs hp64 (by omega) eb 27 0 (by omega) post hp
  rw [cs_cp_0] at h
  unfold wpY_keepFrame
  dsimp only
  rw [es, eb, nI_clamp (show p < 2 ^ 31 by omega), ec, ez, cs_4m, nI_add, cs_32m, nI_add]
  refine ⟨is4, br_f n4 ⟨is4, nm_e ⟨ip, ip, vp_in_nI (by omega) (by decide), ?_⟩⟩⟩
  rw [nI_clamp (show 4 * s + b < 2 ^ 31 by omega)]
  exact nm_e ⟨28, h⟩
theorem cs_Ymiss {now : Int32} {bf bs : Nat} {CN BU op FR TO GA TL DU W WT NY KY KO KM KT NU CI LE SP BY LA HA CA WA QC QF QL QT BX BH BB : Nat → Int32} {s p : Nat} (hs : s < 4) (eb : BX s = nI 4) {post : SY → Prop} (hp : post (now, (nI bs), (nI bf), upd CN 6 (CN 6 + 1), BU, op, FR, TO, GA, TL, DU, W, WT, NY, KY, KO, KM, KT, NU, CI, LE, SP, BY, LA, HA, CA, WA, QC, QF, QL, QT, BX, BH, BB)) : wpY_keepFrame post (now, (nI bs), (nI bf), CN, BU, op, FR, TO, GA, TL, DU, W, WT, NY, KY, KO, KM, KT, NU, CI, LE, SP, BY, LA, HA, CA, WA, QC, QF, QL, QT, BX, BH, BB) (nI s) (nI p) := by
  have is4 : vp_in (nI s) 4 := vp_in_nI hs (by decide)
  have es : (nI s).toNatClampNeg = s := nI_clamp (by omega)
  unfold wpY_keepFrame
  dsimp only
  rw [es, eb]
  exact ⟨is4, br_t rfl (nm_e hp)⟩
theorem cs_Y269a {now : Int32} {bf bs : Nat} {CN BU op FR TO GA TL DU W WT NY KY KO KM KT NU CI LE SP BY LA HA CA WA QC QF QL QT BX BH BB : Nat → Int32} {s p c : Nat} (hc : c < 8) {post : SY → Prop} (hp : post (now, (nI bs), (nI bf), upd CN 5 (CN 5 + 1), BU, op, FR, TO, GA, TL, DU, W, WT, NY, upd KY c 0, KO, upd KM c 0, upd KT c 0, NU, CI, LE, SP, BY, LA, HA, CA, WA, QC, QF, QL, QT, BX, BH, BB)) : wY_comeToStation_269 post (nI s) (nI p) (nI c) 0 now (nI bs) (nI bf) CN BU op FR TO GA TL DU W WT NY KY KO KM KT NU CI LE SP BY LA HA CA WA QC QF QL QT BX BH BB := by
  have ic : vp_in (nI c) 8 := vp_in_nI hc (by decide)
  have ec : (nI c).toNatClampNeg = c := nI_clamp (by omega)
  unfold wY_comeToStation_269 wpY_forget
  dsimp only
  rw [ec, cs_b0]
  exact ⟨ic, nm_e ⟨ic, nm_e ⟨ic, nm_e (br_t rfl (nm_e hp))⟩⟩⟩
theorem cs_Y269b {now : Int32} {bf bs : Nat} {CN BU op FR TO GA TL DU W WT NY KY KO KM KT NU CI LE SP BY LA HA CA WA QC QF QL QT BX BH BB : Nat → Int32} {s p c : Nat} (hc : c < 8) {post : SY → Prop} (hp : wpY_keepFrame post (now, (nI bs), (nI bf), CN, BU, op, FR, TO, GA, TL, DU, W, WT, NY, upd KY c 0, KO, upd KM c 0, upd KT c 0, NU, CI, LE, SP, BY, LA, HA, CA, WA, QC, QF, QL, QT, BX, BH, BB) (nI s) (nI p)) : wY_comeToStation_269 post (nI s) (nI p) (nI c) 1 now (nI bs) (nI bf) CN BU op FR TO GA TL DU W WT NY KY KO KM KT NU CI LE SP BY LA HA CA WA QC QF QL QT BX BH BB := by
  have ic : vp_in (nI c) 8 := vp_in_nI hc (by decide)
  have ec : (nI c).toNatClampNeg = c := nI_clamp (by omega)
  unfold wY_comeToStation_269 wpY_forget
  dsimp only
  rw [ec, cs_b0]
  exact ⟨ic, nm_e ⟨ic, nm_e ⟨ic, nm_e (br_f cs_10 hp)⟩⟩⟩
theorem cs_Y212 {now : Int32} {bf bs : Nat} {CN BU op FR TO GA TL DU W WT NY KY KO KM KT NU CI LE SP BY LA HA CA WA QC QF QL QT BX BH BB : Nat → Int32} {s p c z l : Nat} {zt : Int32} (hp64 : p < 64) (hz : z ≤ 27) (hc : c < 8) (hl : l ≤ 1) (ez : LE p = nI z) (hzt : vp_nar .boolean zt = zt) {post : SY → Prop}
    (h0 : l = 0 → post (now, (nI bs), (nI bf), CN, BU, op, FR, TO, GA, TL, DU, W, WT, NY, upd KY c (KY c + 1), KO, KM, upd KT c zt, NU, CI, LE, SP, BY, LA, HA, CA, WA, QC, QF, QL, QT, BX, BH, BB))
    (hg : l = 1 → (KM c = 0 ∧ zt = 0 ∧ KY c + 1 = nI ((z + 12) / 8)) → wY_comeToStation_269 post (nI s) (nI p) (nI c) 1 now (nI bs) (nI bf) CN BU op FR TO GA TL DU W WT NY (upd KY c (KY c + 1)) KO KM (upd KT c zt) NU CI LE SP BY LA HA CA WA QC QF QL QT BX BH BB)
    (hb : l = 1 → ¬ (KM c = 0 ∧ zt = 0 ∧ KY c + 1 = nI ((z + 12) / 8)) → wY_comeToStation_269 post (nI s) (nI p) (nI c) 0 now (nI bs) (nI bf) CN BU op FR TO GA TL DU W WT NY (upd KY c (KY c + 1)) KO KM (upd KT c zt) NU CI LE SP BY LA HA CA WA QC QF QL QT BX BH BB) :
    wY_comeToStation_212 post (nI s) (nI p) (nI l) (nI c) zt (nI c) now (nI bs) (nI bf) CN BU op FR TO GA TL DU W WT NY KY KO KM KT NU CI LE SP BY LA HA CA WA QC QF QL QT BX BH BB := by
  have ic : vp_in (nI c) 8 := vp_in_nI hc (by decide)
  have ec : (nI c).toNatClampNeg = c := nI_clamp (by omega)
  unfold wY_comeToStation_212 wY_comeToStation_268
  rw [ec, hzt]
  refine ⟨ic, nm_e ⟨ic, ic, nm_e ?_⟩⟩
  rcases (show l = 0 ∨ l = 1 by omega) with e | e
  · subst e
    exact br_t rfl (h0 rfl)
  · subst e
    rw [pk_us, pk_us]
    refine br_f cs_10 ⟨ic, ?_⟩
    by_cases q : KM c = 0
    · refine br_t q ⟨ic, ?_⟩
      by_cases q2 : zt = 0
      · refine br_t q2 ⟨ic, cs_Ycells hp64 hz ez ?_⟩
        by_cases q3 : KY c + 1 = nI ((z + 12) / 8)
        · exact br_t q3 (hg rfl ⟨q, q2, q3⟩)
        · exact br_f q3 (hb rfl (fun y => q3 y.2.2))
      · exact br_f q2 (hb rfl (fun y => q2 y.2.1))
    · exact br_f q (hb rfl (fun y => q y.1))
theorem cs_Y148 {now : Int32} {bf bs : Nat} {CN BU op FR TO GA TL DU W WT NY KY KO KM KT NU CI LE SP BY LA HA CA WA QC QF QL QT BX BH BB : Nat → Int32} {s p c l t : Nat} (hp64 : p < 64) (hc : c < 8) (ht : t ≤ 1) {post : SY → Prop}
    (hp : wY_comeToStation_212 post (nI s) (nI p) (nI l) (nI c) (if KT c = 0 ∧ t = 0 then 0 else 1) (nI c) now (nI bs) (nI bf) CN BU op FR TO GA TL DU W WT NY KY KO (upd KM c (if KM c = 0 ∧ KO c = NU p then 0 else 1)) KT NU CI LE SP BY LA HA CA WA QC QF QL QT BX BH BB) :
    wY_comeToStation_148 post (nI s) (nI p) (nI l) (nI t) (nI c) now (nI bs) (nI bf) CN BU op FR TO GA TL DU W WT NY KY KO KM KT NU CI LE SP BY LA HA CA WA QC QF QL QT BX BH BB := by
  have ic : vp_in (nI c) 8 := vp_in_nI hc (by decide)
  have ec : (nI c).toNatClampNeg = c := nI_clamp (by omega)
  have ip : vp_in (nI p) 64 := vp_in_nI hp64 (by decide)
  have h185 : wY_comeToStation_185 post (nI s) (nI p) (nI l) (nI t) (nI c) (if KM c = 0 ∧ KO c = NU p then 0 else 1) (nI c) now (nI bs) (nI bf) CN BU op FR TO GA TL DU W WT NY KY KO KM KT NU CI LE SP BY LA HA CA WA QC QF QL QT BX BH BB := by
    have hb : vp_nar .boolean (if KM c = 0 ∧ KO c = NU p then 0 else 1) = (if KM c = 0 ∧ KO c = NU p then 0 else 1) := by
      split
      · exact cs_b0
      · exact cs_b1
    unfold wY_comeToStation_185 wY_comeToStation_207
    rw [ec, hb]
    refine ⟨ic, nm_e ⟨ic, ?_⟩⟩
    by_cases q : KT c = 0
    · refine br_t q ?_
      by_cases q2 : t = 0
      · rw [if_pos ⟨q, q2⟩] at hp
        subst q2
        exact br_t rfl hp
      · rw [if_neg (fun y => q2 y.2)] at hp
        exact br_f (nI_ne0 (by omega) (by omega)) hp
    · rw [if_neg (fun y => q y.1)] at hp
      exact br_f q hp
  unfold wY_comeToStation_148 wY_comeToStation_180
  rw [ec, nI_clamp (show p < 2 ^ 31 by omega)]
  refine ⟨ic, ?_⟩
  by_cases q : KM c = 0
  · refine br_t q ⟨ic, ip, ?_⟩
    by_cases q2 : KO c = NU p
    · rw [if_pos ⟨q, q2⟩] at h185
      exact br_t q2 h185
    · rw [if_neg (fun y => q2 y.2)] at h185
      exact br_f q2 h185
  · rw [if_neg (fun y => q y.1)] at h185
    exact br_f q h185
theorem cs_Y47 {now : Int32} {bf bs : Nat} {CN BU op FR TO GA TL DU W WT NY KY KO KM KT NU CI LE SP BY LA HA CA WA QC QF QL QT BX BH BB : Nat → Int32} {KO' : Nat → Int32} {s p c l t n : Nat} (hs : s < 4) (hn : n < 6) (hp64 : p < 64) (hc : c < 8) (en : QC s = nI n) (ec : CI p = nI c) (hF : (KY c = 0 ∧ KO' = upd KO c (NU p)) ∨ (¬ KY c = 0 ∧ KO' = KO))
    (hL : ∀ i, i ≤ n → vp_nar .boolean (QL (6 * s + i)) = QL (6 * s + i)) (hT : ∀ i, i ≤ n → vp_nar .boolean (QT (6 * s + i)) = QT (6 * s + i)) : ∀ d i, i + d = n → ∀ post : SY → Prop,
    wY_comeToStation_148 post (nI s) (nI p) (nI l) (nI t) (nI c) now (nI bs) (nI bf) CN BU op FR TO GA TL DU W WT NY KY KO' KM KT NU CI LE SP BY LA HA CA WA QC (cs_mv QF 1 (6 * s) n) (cs_mv QL 1 (6 * s) n) (cs_mv QT 1 (6 * s) n) BX BH BB →
    wY_comeToStation_47 post (nI s) (nI p) (nI l) (nI t) now (nI bs) (nI bf) (d + 1) (nI (6 * s + i)) CN BU op FR TO GA TL DU W WT NY KY KO KM KT NU CI LE SP BY LA HA CA WA QC (cs_mv QF 1 (6 * s) i) (cs_mv QL 1 (6 * s) i) (cs_mv QT 1 (6 * s) i) BX BH BB := by
  have is4 : vp_in (nI s) 4 := vp_in_nI hs (by decide)
  have es : (nI s).toNatClampNeg = s := nI_clamp (by omega)
  have ic : vp_in (nI c) 8 := vp_in_nI hc (by decide)
  have ip : vp_in (nI p) 64 := vp_in_nI hp64 (by decide)
  intro d
  induction d with
  | zero =>
    intro i hi post hp
    have e : i = n := by omega
    subst e
    refine ⟨is4, ?_⟩
    rw [es, en, cs_6m, nI_add, nI_clamp (show p < 2 ^ 31 by omega), ec]
    refine br_t (Int32.le_refl _) ⟨ip, nm_e ⟨ic, ?_⟩⟩
    rw [nI_clamp (show c < 2 ^ 31 by omega)]
    rcases hF with ⟨q, rfl⟩ | ⟨q, rfl⟩
    · exact br_t q ⟨ip, ic, nm_e hp⟩
    · exact br_f q hp
  | succ d ih =>
    intro i hi post hp
    refine ⟨is4, ?_⟩
    have ho : 6 * s + i + 1 < 6 * s ∨ 6 * s + i ≤ 6 * s + i + 1 := by omega
    rw [es, en, cs_6m, nI_add, nI_1 (6 * s + i), nI_clamp (show 6 * s + i < 2 ^ 31 by omega), nI_clamp (show 6 * s + i + 1 < 2 ^ 31 by omega), cs_mv_out ho, cs_mv_out ho, cs_mv_out ho,
      show vp_nar .boolean (QL (6 * s + i + 1)) = QL (6 * s + i + 1) from hL (i + 1) (by omega), show vp_nar .boolean (QT (6 * s + i + 1)) = QT (6 * s + i + 1) from hT (i + 1) (by omega)]
    have i1 : vp_in (nI (6 * s + i + 1)) 24 := vp_in_nI (by omega) (by decide)
    have i0 : vp_in (nI (6 * s + i)) 24 := vp_in_nI (by omega) (by decide)
    exact br_f (nI_ge (by omega) (by omega)) ⟨i1, i0, nm_r (cs_mv_s QF 1 (6 * s) i) ⟨i1, i0, nm_r (cs_mv_s QL 1 (6 * s) i) ⟨i1, i0, nm_r (cs_mv_s QT 1 (6 * s) i) (nm_e (ih (i + 1) (by omega) post hp))⟩⟩⟩
theorem cs_Ydel {now : Int32} {bf bs : Nat} {CN BU op FR TO GA TL DU W WT NY KY KO KM KT NU CI LE SP BY LA HA CA WA QC QF QL QT BX BH BB : Nat → Int32} {KO' : Nat → Int32} {s p c l t n : Nat} (hs : s < 4) (hn : n < 6) (hp64 : p < 64) (hc : c < 8) (en : QC s = nI (n + 1)) (ec : CI p = nI c) (hF : (KY c = 0 ∧ KO' = upd KO c (NU p)) ∨ (¬ KY c = 0 ∧ KO' = KO))
    (hL : ∀ i, i ≤ n → vp_nar .boolean (QL (6 * s + i)) = QL (6 * s + i)) (hT : ∀ i, i ≤ n → vp_nar .boolean (QT (6 * s + i)) = QT (6 * s + i))
    (e1 : QF (6 * s) = nI p) (e2 : QL (6 * s) = nI l) (e3 : QT (6 * s) = nI t) {post : SY → Prop}
    (hp : wY_comeToStation_148 post (nI s) (nI p) (nI l) (nI t) (nI c) now (nI bs) (nI bf) CN BU op FR TO GA TL DU W WT NY KY KO' KM KT NU CI LE SP BY LA HA CA WA (upd QC s (nI n)) (cs_mv QF 1 (6 * s) n) (cs_mv QL 1 (6 * s) n) (cs_mv QT 1 (6 * s) n) BX BH BB) :
    wpY_comeToStation post (now, (nI bs), (nI bf), CN, BU, op, FR, TO, GA, TL, DU, W, WT, NY, KY, KO, KM, KT, NU, CI, LE, SP, BY, LA, HA, CA, WA, QC, QF, QL, QT, BX, BH, BB) (nI s) := by
  have is4 : vp_in (nI s) 4 := vp_in_nI hs (by decide)
  have es : (nI s).toNatClampNeg = s := nI_clamp (by omega)
  have em : QC s - 1 = nI n := by rw [en]; exact nI_pred n
  have i6 : vp_in (nI (6 * s)) 24 := vp_in_nI (by omega) (by decide)
  have h := @cs_Y47 now bf bs CN BU op FR TO GA TL DU W WT NY KY KO KM KT NU CI LE SP BY LA HA CA WA (upd QC s (nI n)) QF QL QT BX BH BB KO' s p c l t n hs hn hp64 hc pk_us ec hF hL hT n 0 (by omega) post hp
  rw [cs_mv_0, cs_mv_0, cs_mv_0] at h
  unfold wpY_comeToStation
  dsimp only
  rw [es, em, cs_6m, nI_clamp (show 6 * s < 2 ^ 31 by omega)]
  exact ⟨i6, nm_r e1 ⟨i6, nm_r e2 ⟨i6, nm_r e3 ⟨is4, is4, nm_e (nm_e ⟨n + 1, h⟩)⟩⟩⟩⟩
end
section
theorem cs_deliver {now : Int32} {bf bs : Nat} {CN FB FZ FC op FR TO GA TL DU W WF NX HD KX KF KS LA TA WA QC QX BX IF BU WT NY KY KO KM KT NU CI LE SP BY HA CA QF QL QT BH BB : Nat → Int32} {k s : Nat} (h1 : bf ≤ 255) (h2 : bs ≤ 27) (h3 : cs_N k bf bs op) (h4 : ∀ i, i < bs → BU i = FB (27 * bf + i))
    (h5 : cs_W (cs_FP bf FC FZ FB NU CI LE BY) op W WF WT HD SP NX NY) (h6 : cs_K op KX KY KF KO KS KM KT) (h7 : cs_Q (cs_FP bf FC FZ FB NU CI LE BY) op TO QC QX QF QL QT)
    (h8 : cs_I bf FC FZ FB BX IF BH BB) (h9 : cs_T TA HA CA) (h10 : cs_L 4 LA 8) (h11 : cs_L 8 TO 4) (hs : s < 4) :
    (QC s = nI 0 ∧ ∀ post : SX → Prop, post (now, (nI bf), (nI bs), CN, FB, FZ, FC, op, FR, TO, GA, TL, DU, W, WF, NX, HD, KX, KF, KS, LA, TA, WA, QC, QX, BX, IF) → wpX_deliverTo post (now, (nI bf), (nI bs), CN, FB, FZ, FC, op, FR, TO, GA, TL, DU, W, WF, NX, HD, KX, KF, KS, LA, TA, WA, QC, QX, BX, IF) (nI s)) ∨
    (¬ QC s ≤ 0 ∧ ∃ u' v', i_Rel k u' v' ∧ (∀ post : SX → Prop, post u' → wpX_deliverTo post (now, (nI bf), (nI bs), CN, FB, FZ, FC, op, FR, TO, GA, TL, DU, W, WF, NX, HD, KX, KF, KS, LA, TA, WA, QC, QX, BX, IF) (nI s)) ∧ (∀ post : SY → Prop, post v' → wpY_comeToStation post (now, (nI bs), (nI bf), CN, BU, op, FR, TO, GA, TL, DU, W, WT, NY, KY, KO, KM, KT, NU, CI, LE, SP, BY, LA, HA, CA, WA, QC, QF, QL, QT, BX, BH, BB) (nI s))) := by
  have is4 : vp_in (nI s) 4 := vp_in_nI hs (by decide)
  have es : (nI s).toNatClampNeg = s := nI_clamp (by omega)
  obtain ⟨n, hn, en, hq⟩ := h7 s hs
  rcases n with _ | n
  · refine Or.inl ⟨en, fun post hp => ?_⟩
    unfold wpX_deliverTo
    dsimp only
    rw [es]
    exact ⟨is4, br_t en hp⟩
  refine Or.inr ⟨by rw [en]; exact nI_nle (by omega) (by omega), ?_⟩
  obtain ⟨f, p, c, z, l, t, a1, a2, a3, a4, a5, a6, a7, ho, a9⟩ := hq 0 (by omega)
  have hFP := a7
  obtain ⟨f1, f2, hc, f4, f5, f6, f7, f8, f9, f10, f11⟩ := a7
  obtain ⟨g1, g2, g3⟩ := (h6 c hc).2 ho
  obtain ⟨KF', hF⟩ : ∃ KF', (KX c = 0 ∧ KF' = upd KF c (nI f)) ∨ (¬ KX c = 0 ∧ KF' = KF) := by
    by_cases q : KX c = 0
    · exact ⟨_, Or.inl ⟨q, rfl⟩⟩
    · exact ⟨_, Or.inr ⟨q, rfl⟩⟩
  obtain ⟨KO', hO⟩ : ∃ KO', (KY c = 0 ∧ KO' = upd KO c (NU p)) ∨ (¬ KY c = 0 ∧ KO' = KO) := by
    by_cases q : KY c = 0
    · exact ⟨_, Or.inl ⟨q, rfl⟩⟩
    · exact ⟨_, Or.inr ⟨q, rfl⟩⟩
  have hF' : ∀ j, j ≠ c → KF' j = KF j := by
    intro j hj
    rcases hF with ⟨_, e⟩ | ⟨_, e⟩
    · rw [e, pk_un hj]
    · rw [e]
  have hO' : ∀ j, j ≠ c → KO' j = KO j := by
    intro j hj
    rcases hO with ⟨_, e⟩ | ⟨_, e⟩
    · rw [e, pk_un hj]
    · rw [e]
  have hfo : KO' c = KF' c + 1 := by
    rcases hF with ⟨q, e⟩ | ⟨q, e⟩
    · rcases hO with ⟨q', e'⟩ | ⟨q', e'⟩
      · rw [e, e', pk_us, pk_us, f6, nI_1]
      · exact absurd (g1.symm.trans q) q'
    · rcases hO with ⟨q', e'⟩ | ⟨q', e'⟩
      · exact absurd (g1.trans q') q
      · rw [e, e']
        exact g2 q
  have hK := cs_K_keep (f := f) (t := t) h6 ho hc hF' hO' hfo
  generalize hKS : (if KF' c = nI f ∧ t = 0 then KS else upd KS c 1) = KS' at hK
  generalize hzm : (if KM c = 0 ∧ KO' c = nI (f + 1) then (0 : Int32) else 1) = zm at hK
  generalize hzt : (if KT c = 0 ∧ t = 0 then (0 : Int32) else 1) = zt at hK
  have hztb : vp_nar .boolean zt = zt := by
    rw [← hzt]
    split
    · exact cs_b0
    · exact cs_b1
  have hQ := cs_Q_out h7 hs (by omega) en
  have hL : ∀ i, i ≤ n → vp_nar .boolean (QL (6 * s + i)) = QL (6 * s + i) := by
    intro i hi
    obtain ⟨_, _, _, _, l', _, _, _, b3, _, b5, _⟩ := hq i (by omega)
    rw [b3]
    exact cs_bn b5
  have hT : ∀ i, i ≤ n → vp_nar .boolean (QT (6 * s + i)) = QT (6 * s + i) := by
    intro i hi
    obtain ⟨_, _, _, _, _, t', _, _, _, b4, _, b6, _⟩ := hq i (by omega)
    rw [b4]
    exact cs_bn b6
  have hkX : ∀ post : SX → Prop, post (now, (nI bf), (nI bs), CN, FB, FZ, FC, op, FR, TO, GA, TL, DU, W, WF, NX, HD, upd KX c (KX c + 1), KF', KS', LA, TA, WA, upd QC s (nI n), cs_mv QX 1 (6 * s) n, BX, IF) → wpX_keep post (now, (nI bf), (nI bs), CN, FB, FZ, FC, op, FR, TO, GA, TL, DU, W, WF, NX, HD, KX, KF, KS, LA, TA, WA, upd QC s (nI n), cs_mv QX 1 (6 * s) n, BX, IF) (nI (4 * f + 2 * l + t)) :=
    fun post hp => cs_Xkeep (by omega) a5 a6 hc f7 hF (by rw [hKS]; exact hp)
  have hY : ∀ post : SY → Prop, wY_comeToStation_212 post (nI s) (nI p) (nI l) (nI c) zt (nI c) now (nI bs) (nI bf) CN BU op FR TO GA TL DU W WT NY KY KO' (upd KM c zm) KT NU CI LE SP BY LA HA CA WA (upd QC s (nI n)) (cs_mv QF 1 (6 * s) n) (cs_mv QL 1 (6 * s) n) (cs_mv QT 1 (6 * s) n) BX BH BB → wpY_comeToStation post (now, (nI bs), (nI bf), CN, BU, op, FR, TO, GA, TL, DU, W, WT, NY, KY, KO, KM, KT, NU, CI, LE, SP, BY, LA, HA, CA, WA, QC, QF, QL, QT, BX, BH, BB) (nI s) := by
    intro post hp
    refine cs_Ydel hs (by omega) f1 hc en f8 hO hL hT a2 a3 a4 (cs_Y148 f1 hc a6 ?_)
    rw [f6, hzm, hzt]
    exact hp
  rcases (show l = 0 ∨ l = 1 by omega) with e | e
  · subst e
    refine ⟨(now, (nI bf), (nI bs), CN, FB, FZ, FC, op, FR, TO, GA, TL, DU, W, WF, NX, HD, upd KX c (KX c + 1), KF', KS', LA, TA, WA, upd QC s (nI n), cs_mv QX 1 (6 * s) n, BX, IF), (now, (nI bs), (nI bf), CN, BU, op, FR, TO, GA, TL, DU, W, WT, NY, upd KY c (KY c + 1), KO', upd KM c zm, upd KT c zt, NU, CI, LE, SP, BY, LA, HA, CA, WA, upd QC s (nI n), cs_mv QF 1 (6 * s) n, cs_mv QL 1 (6 * s) n, cs_mv QT 1 (6 * s) n, BX, BH, BB),
      cs_mk h1 h2 h3 h4 h5 hK hQ h8 h9 h10 h11, fun post hp => ?_, fun post hp => ?_⟩
    · exact cs_Xdel hs (by omega) (by omega) a5 a6 en a1 hkX (fun _ => hp) (fun q => absurd q (by omega))
    · exact hY post (cs_Y212 f1 f5 hc a5 f10 hztb (fun _ => hp) (fun q => absurd q (by omega)) (fun q => absurd q (by omega)))
  · subst e
    have hKf := cs_K_forget hK ho
    obtain ⟨k1, k2, k3⟩ := (hK c hc).2 ho
    by_cases g : KS' c = 0 ∧ (upd KX c (KX c + 1)) c = nI ((z + 12) / 8)
    · have gY : upd KM c zm c = 0 ∧ zt = 0 ∧ KY c + 1 = nI ((z + 12) / 8) := by
        obtain ⟨m1, m2⟩ := k3.mp g.1
        rw [pk_us] at m2
        refine ⟨m1, m2, ?_⟩
        have m3 := k1.symm.trans g.2
        rw [pk_us] at m3
        exact m3
      obtain ⟨b, hb, eb, _⟩ := h8 s hs
      by_cases b4 : b = 4
      · subst b4
        refine ⟨(now, (nI bf), (nI bs), upd CN 6 (CN 6 + 1), FB, FZ, FC, op, FR, TO, GA, TL, DU, W, WF, NX, HD, upd (upd KX c (KX c + 1)) c 0, KF', upd KS' c 0, LA, TA, WA, upd QC s (nI n), cs_mv QX 1 (6 * s) n, BX, IF),
          (now, (nI bs), (nI bf), upd CN 6 (CN 6 + 1), BU, op, FR, TO, GA, TL, DU, W, WT, NY, upd (upd KY c (KY c + 1)) c 0, KO', upd (upd KM c zm) c 0, upd (upd KT c zt) c 0, NU, CI, LE, SP, BY, LA, HA, CA, WA, upd QC s (nI n), cs_mv QF 1 (6 * s) n, cs_mv QL 1 (6 * s) n, cs_mv QT 1 (6 * s) n, BX, BH, BB),
          cs_mk h1 h2 h3 h4 h5 hKf hQ h8 h9 h10 h11, fun post hp => ?_, fun post hp => ?_⟩
        · exact cs_Xdel hs (by omega) (by omega) a5 a6 en a1 hkX (fun q => absurd q (by omega)) (fun _ => cs_Xend (by omega) hc f5 f7 f9 (fun _ => cs_X35b hs hc eb hp) (fun q => absurd g q))
        · exact hY post (cs_Y212 f1 f5 hc a5 f10 hztb (fun q => absurd q (by omega)) (fun _ _ => cs_Y269b hc (cs_Ymiss hs eb hp)) (fun _ q => absurd gY q))
      · refine ⟨(now, (nI bf), (nI bs), upd CN 4 (CN 4 + 1), FB, FZ, FC, op, FR, TO, GA, TL, DU, W, WF, NX, HD, upd (upd KX c (KX c + 1)) c 0, KF', upd KS' c 0, LA, TA, WA, upd QC s (nI n), cs_mv QX 1 (6 * s) n, upd BX s (nI (b + 1)), upd IF (4 * s + b) (nI f)),
          (now, (nI bs), (nI bf), upd CN 4 (CN 4 + 1), BU, op, FR, TO, GA, TL, DU, W, WT, NY, upd (upd KY c (KY c + 1)) c 0, KO', upd (upd KM c zm) c 0, upd (upd KT c zt) c 0, NU, CI, LE, SP, BY, LA, HA, CA, WA, upd QC s (nI n), cs_mv QF 1 (6 * s) n, cs_mv QL 1 (6 * s) n, cs_mv QT 1 (6 * s) n, upd BX s (nI (b + 1)), upd BH (4 * s + b) (nI (32 * c + z)), cs_cp BB (27 * (4 * s + b)) (fun i => BY (27 * p + i)) 27),
          cs_mk h1 h2 h3 h4 h5 hKf hQ (cs_I_in h8 hs (by omega) eb hFP) h9 h10 h11, fun post hp => ?_, fun post hp => ?_⟩
        · exact cs_Xdel hs (by omega) (by omega) a5 a6 en a1 hkX (fun q => absurd q (by omega)) (fun _ => cs_Xend (by omega) hc f5 f7 f9 (fun _ => cs_X35c hs hc (by omega) eb hp) (fun q => absurd g q))
        · exact hY post (cs_Y212 f1 f5 hc a5 f10 hztb (fun q => absurd q (by omega)) (fun _ _ => cs_Y269b hc (cs_Ykeep hs f1 (by omega) eb f8 f10 hp)) (fun _ q => absurd gY q))
    · have gY : ¬ (upd KM c zm c = 0 ∧ zt = 0 ∧ KY c + 1 = nI ((z + 12) / 8)) := by
        intro ⟨m1, m2, m3⟩
        refine g ⟨k3.mpr ⟨m1, ?_⟩, k1.trans ?_⟩
        · rw [pk_us]
          exact m2
        · rw [pk_us]
          exact m3
      refine ⟨(now, (nI bf), (nI bs), upd CN 5 (CN 5 + 1), FB, FZ, FC, op, FR, TO, GA, TL, DU, W, WF, NX, HD, upd (upd KX c (KX c + 1)) c 0, KF', upd KS' c 0, LA, TA, WA, upd QC s (nI n), cs_mv QX 1 (6 * s) n, BX, IF),
        (now, (nI bs), (nI bf), upd CN 5 (CN 5 + 1), BU, op, FR, TO, GA, TL, DU, W, WT, NY, upd (upd KY c (KY c + 1)) c 0, KO', upd (upd KM c zm) c 0, upd (upd KT c zt) c 0, NU, CI, LE, SP, BY, LA, HA, CA, WA, upd QC s (nI n), cs_mv QF 1 (6 * s) n, cs_mv QL 1 (6 * s) n, cs_mv QT 1 (6 * s) n, BX, BH, BB),
        cs_mk h1 h2 h3 h4 h5 hKf hQ h8 h9 h10 h11, fun post hp => ?_, fun post hp => ?_⟩
      · exact cs_Xdel hs (by omega) (by omega) a5 a6 en a1 hkX (fun q => absurd q (by omega)) (fun _ => cs_Xend (by omega) hc f5 f7 f9 (fun q => absurd q g) (fun _ => cs_X35a hc hp))
      · exact hY post (cs_Y212 f1 f5 hc a5 f10 hztb (fun q => absurd q (by omega)) (fun _ q => absurd q gY) (fun _ _ => cs_Y269a hc hp))
end
section
/-! ticks -/
def cs_XT12 (post : SX → Prop) (n : Nat) (x : Int32) (u : SX) : Prop := match u with
  | (now, bf, bs, CN, FB, FZ, FC, op, FR, TO, GA, TL, DU, W, WF, NX, HD, KX, KF, KS, LA, TA, WA, QC, QX, BX, IF) => wX_tick_12 post n x now bf bs CN FB FZ FC op FR TO GA TL DU W WF NX HD KX KF KS LA TA WA QC QX BX IF
def cs_XT30 (post : SX → Prop) (n : Nat) (x : Int32) (u : SX) : Prop := match u with
  | (now, bf, bs, CN, FB, FZ, FC, op, FR, TO, GA, TL, DU, W, WF, NX, HD, KX, KF, KS, LA, TA, WA, QC, QX, BX, IF) => wX_tick_30 post n x now bf bs CN FB FZ FC op FR TO GA TL DU W WF NX HD KX KF KS LA TA WA QC QX BX IF
def cs_XP22 (post : Int32 → SX → Prop) (x1 x2 : Int32) (n : Nat) (x : Int32) (u : SX) : Prop := match u with
  | (now, bf, bs, CN, FB, FZ, FC, op, FR, TO, GA, TL, DU, W, WF, NX, HD, KX, KF, KS, LA, TA, WA, QC, QX, BX, IF) => wX_pass_22 post x1 x2 n x now bf bs CN FB FZ FC op FR TO GA TL DU W WF NX HD KX KF KS LA TA WA QC QX BX IF
def cs_YP40 (post : Int32 → SY → Prop) (J : Int32 → Int32 → Int32 → Int32 → (Nat → Int32) → (Nat → Int32) → (Nat → Int32) → (Nat → Int32) → (Nat → Int32) → (Nat → Int32) → (Nat → Int32) → (Nat → Int32) → (Nat → Int32) → (Nat → Int32) → (Nat → Int32) → (Nat → Int32) → (Nat → Int32) → (Nat → Int32) → (Nat → Int32) → (Nat → Int32) → (Nat → Int32) → (Nat → Int32) → (Nat → Int32) → (Nat → Int32) → (Nat → Int32) → (Nat → Int32) → (Nat → Int32) → (Nat → Int32) → (Nat → Int32) → (Nat → Int32) → (Nat → Int32) → (Nat → Int32) → (Nat → Int32) → (Nat → Int32) → (Nat → Int32) → Prop) (x1 x2 x3 : Int32) (n : Nat) (x : Int32) (v : SY) : Prop := match v with
  | (now, bs, bf, CN, BU, op, FR, TO, GA, TL, DU, W, WT, NY, KY, KO, KM, KT, NU, CI, LE, SP, BY, LA, HA, CA, WA, QC, QF, QL, QT, BX, BH, BB) => wY_pass_40 post J x1 x2 x3 n x now bs bf CN BU op FR TO GA TL DU W WT NY KY KO KM KT NU CI LE SP BY LA HA CA WA QC QF QL QT BX BH BB
def cs_YP61 (post : Int32 → SY → Prop) (J : Int32 → Int32 → Int32 → Int32 → (Nat → Int32) → (Nat → Int32) → (Nat → Int32) → (Nat → Int32) → (Nat → Int32) → (Nat → Int32) → (Nat → Int32) → (Nat → Int32) → (Nat → Int32) → (Nat → Int32) → (Nat → Int32) → (Nat → Int32) → (Nat → Int32) → (Nat → Int32) → (Nat → Int32) → (Nat → Int32) → (Nat → Int32) → (Nat → Int32) → (Nat → Int32) → (Nat → Int32) → (Nat → Int32) → (Nat → Int32) → (Nat → Int32) → (Nat → Int32) → (Nat → Int32) → (Nat → Int32) → (Nat → Int32) → (Nat → Int32) → (Nat → Int32) → (Nat → Int32) → (Nat → Int32) → Prop) (x1 x2 x3 : Int32) (n : Nat) (x : Int32) (v : SY) : Prop := match v with
  | (now, bs, bf, CN, BU, op, FR, TO, GA, TL, DU, W, WT, NY, KY, KO, KM, KT, NU, CI, LE, SP, BY, LA, HA, CA, WA, QC, QF, QL, QT, BX, BH, BB) => wY_pass_61 post J x1 x2 x3 n x now bs bf CN BU op FR TO GA TL DU W WT NY KY KO KM KT NU CI LE SP BY LA HA CA WA QC QF QL QT BX BH BB
def cs_YJ (J : Int32 → Int32 → Int32 → Int32 → (Nat → Int32) → (Nat → Int32) → (Nat → Int32) → (Nat → Int32) → (Nat → Int32) → (Nat → Int32) → (Nat → Int32) → (Nat → Int32) → (Nat → Int32) → (Nat → Int32) → (Nat → Int32) → (Nat → Int32) → (Nat → Int32) → (Nat → Int32) → (Nat → Int32) → (Nat → Int32) → (Nat → Int32) → (Nat → Int32) → (Nat → Int32) → (Nat → Int32) → (Nat → Int32) → (Nat → Int32) → (Nat → Int32) → (Nat → Int32) → (Nat → Int32) → (Nat → Int32) → (Nat → Int32) → (Nat → Int32) → (Nat → Int32) → (Nat → Int32) → (Nat → Int32) → Prop) (x : Int32) (v : SY) : Prop := match v with
  | (now, bs, bf, CN, BU, op, FR, TO, GA, TL, DU, W, WT, NY, KY, KO, KM, KT, NU, CI, LE, SP, BY, LA, HA, CA, WA, QC, QF, QL, QT, BX, BH, BB) => J x now bs bf CN BU op FR TO GA TL DU W WT NY KY KO KM KT NU CI LE SP BY LA HA CA WA QC QF QL QT BX BH BB
def cs_YP22 (post : Int32 → SY → Prop) (x1 x2 : Int32) (n : Nat) (x : Int32) (v : SY) : Prop := match v with
  | (now, bs, bf, CN, BU, op, FR, TO, GA, TL, DU, W, WT, NY, KY, KO, KM, KT, NU, CI, LE, SP, BY, LA, HA, CA, WA, QC, QF, QL, QT, BX, BH, BB) => wY_pass_22 post x1 x2 n x now bs bf CN BU op FR TO GA TL DU W WT NY KY KO KM KT NU CI LE SP BY LA HA CA WA QC QF QL QT BX BH BB
theorem cs_T12 {k : Nat} : ∀ d s, s + d = 4 → ∀ (u : SX) (v : SY), i_Rel k u v → ∃ u' v', i_Rel k u' v' ∧ (∀ post : SX → Prop, (∃ n, cs_XT30 post n 0 u') → cs_XT12 post (d + 1) (nI s) u) ∧
    (∀ (post : Int32 → SY → Prop) (J : Int32 → Int32 → Int32 → Int32 → (Nat → Int32) → (Nat → Int32) → (Nat → Int32) → (Nat → Int32) → (Nat → Int32) → (Nat → Int32) → (Nat → Int32) → (Nat → Int32) → (Nat → Int32) → (Nat → Int32) → (Nat → Int32) → (Nat → Int32) → (Nat → Int32) → (Nat → Int32) → (Nat → Int32) → (Nat → Int32) → (Nat → Int32) → (Nat → Int32) → (Nat → Int32) → (Nat → Int32) → (Nat → Int32) → (Nat → Int32) → (Nat → Int32) → (Nat → Int32) → (Nat → Int32) → (Nat → Int32) → (Nat → Int32) → (Nat → Int32) → (Nat → Int32) → (Nat → Int32) → (Nat → Int32) → Prop) (x1 x2 x3 : Int32), (∃ n, cs_YP61 post J x1 x2 x3 n 0 v') → cs_YP40 post J x1 x2 x3 (d + 1) (nI s) v) := by
  intro d
  induction d with
  | zero =>
    intro s hs u v I
    have e : s = 4 := by omega
    subst e
    refine ⟨u, v, I, fun post h => ?_, fun post J x1 x2 x3 h => ?_⟩
    · obtain ⟨_, _, _, _, _, _, _, _, _, _, _, _, _, _, _, _, _, _, _, _, _, _, _, _, _, _, _, _, _, _, _, _, _, _, _, _, _, _, _, _, _, _, _, _, _, _, rfl, rfl, _⟩ := I
      exact br_t (Int32.le_refl _) h
    · obtain ⟨_, _, _, _, _, _, _, _, _, _, _, _, _, _, _, _, _, _, _, _, _, _, _, _, _, _, _, _, _, _, _, _, _, _, _, _, _, _, _, _, _, _, _, _, _, _, rfl, rfl, _⟩ := I
      exact br_t (Int32.le_refl _) h
  | succ d ih =>
    intro s hs u v I
    obtain ⟨u1, v1, R1, sX, sY⟩ := cs_sendFrom I (show s < 4 by omega)
    obtain ⟨u', v', R', tX, tY⟩ := ih (s + 1) (by omega) u1 v1 R1
    have h4 : ¬ (4 : Int32) ≤ nI s := nI_ge (b := 4) (by omega) (by decide)
    refine ⟨u', v', R', fun post h => ?_, fun post J x1 x2 x3 h => ?_⟩
    · have t := tX post h
      obtain ⟨_, _, _, _, _, _, _, _, _, _, _, _, _, _, _, _, _, _, _, _, _, _, _, _, _, _, _, _, _, _, _, _, _, _, _, _, _, _, _, _, _, _, _, _, _, _, rfl, rfl, _⟩ := I
      obtain ⟨_, _, _, _, _, _, _, _, _, _, _, _, _, _, _, _, _, _, _, _, _, _, _, _, _, _, _, _, _, _, _, _, _, _, _, _, _, _, _, _, _, _, _, _, _, _, rfl, rfl, _⟩ := R1
      exact br_f h4 (sX _ (nm_r (nI_1 s) t))
    · have t := tY post J x1 x2 x3 h
      obtain ⟨_, _, _, _, _, _, _, _, _, _, _, _, _, _, _, _, _, _, _, _, _, _, _, _, _, _, _, _, _, _, _, _, _, _, _, _, _, _, _, _, _, _, _, _, _, _, rfl, rfl, _⟩ := I
      obtain ⟨_, _, _, _, _, _, _, _, _, _, _, _, _, _, _, _, _, _, _, _, _, _, _, _, _, _, _, _, _, _, _, _, _, _, _, _, _, _, _, _, _, _, _, _, _, _, rfl, rfl, _⟩ := R1
      exact br_f h4 (sY _ (nm_r (nI_1 s) t))
theorem cs_T30 {k : Nat} : ∀ d s, s + d = 4 → ∀ (u : SX) (v : SY), i_Rel k u v → ∃ u' v', i_Rel k u' v' ∧ (∀ post : SX → Prop, post u' → cs_XT30 post (d + 1) (nI s) u) ∧
    (∀ (post : Int32 → SY → Prop) (J : Int32 → Int32 → Int32 → Int32 → (Nat → Int32) → (Nat → Int32) → (Nat → Int32) → (Nat → Int32) → (Nat → Int32) → (Nat → Int32) → (Nat → Int32) → (Nat → Int32) → (Nat → Int32) → (Nat → Int32) → (Nat → Int32) → (Nat → Int32) → (Nat → Int32) → (Nat → Int32) → (Nat → Int32) → (Nat → Int32) → (Nat → Int32) → (Nat → Int32) → (Nat → Int32) → (Nat → Int32) → (Nat → Int32) → (Nat → Int32) → (Nat → Int32) → (Nat → Int32) → (Nat → Int32) → (Nat → Int32) → (Nat → Int32) → (Nat → Int32) → (Nat → Int32) → (Nat → Int32) → (Nat → Int32) → Prop) (x1 x2 x3 : Int32), cs_YJ J (x3 + 1) v' → cs_YP61 post J x1 x2 x3 (d + 1) (nI s) v) := by
  intro d
  induction d with
  | zero =>
    intro s hs u v I
    have e : s = 4 := by omega
    subst e
    refine ⟨u, v, I, fun post h => ?_, fun post J x1 x2 x3 h => ?_⟩
    · obtain ⟨_, _, _, _, _, _, _, _, _, _, _, _, _, _, _, _, _, _, _, _, _, _, _, _, _, _, _, _, _, _, _, _, _, _, _, _, _, _, _, _, _, _, _, _, _, _, rfl, rfl, _⟩ := I
      exact br_t (Int32.le_refl _) h
    · obtain ⟨_, _, _, _, _, _, _, _, _, _, _, _, _, _, _, _, _, _, _, _, _, _, _, _, _, _, _, _, _, _, _, _, _, _, _, _, _, _, _, _, _, _, _, _, _, _, rfl, rfl, _⟩ := I
      exact br_t (Int32.le_refl _) (nm_e h)
  | succ d ih =>
    intro s hs u v I
    have I0 := I
    obtain ⟨now, bf, bs, CN, FB, FZ, FC, op, FR, TO, GA, TL, DU, W, WF, NX, HD, KX, KF, KS, LA, TA, WA, QC, QX, BX, IF, BU, WT, NY, KY, KO, KM, KT, NU, CI, LE, SP, BY, HA, CA, QF, QL, QT, BH, BB, rfl, rfl, h1, h2, h3, h4, h5, h6, h7, h8, h9, h10, h11⟩ := I
    have hs4 : s < 4 := by omega
    have is4 : vp_in (nI s) 4 := vp_in_nI hs4 (by decide)
    have es : (nI s).toNatClampNeg = s := nI_clamp (by omega)
    have hlt : ¬ (4 : Int32) ≤ nI s := nI_ge (b := 4) (by omega) (by decide)
    rcases @cs_deliver now bf bs CN FB FZ FC op FR TO GA TL DU W WF NX HD KX KF KS LA TA WA QC QX BX IF BU WT NY KY KO KM KT NU CI LE SP BY HA CA QF QL QT BH BB k s h1 h2 h3 h4 h5 h6 h7 h8 h9 h10 h11 hs4 with ⟨en, sX⟩ | ⟨en, u1, v1, R1, sX, sY⟩
    · obtain ⟨u', v', R', tX, tY⟩ := ih (s + 1) (by omega) _ _ I0
      refine ⟨u', v', R', fun post h => ?_, fun post J x1 x2 x3 h => ?_⟩
      · have t := tX post h
        exact br_f hlt (sX _ (nm_r (nI_1 s) t))
      · have t := tY post J x1 x2 x3 h
        have e0 : QC (nI s).toNatClampNeg ≤ 0 := by
          rw [es, en]
          exact Int32.le_refl _
        exact br_f hlt ⟨is4, br_t e0 (nm_r (nI_1 s) t)⟩
    · obtain ⟨u', v', R', tX, tY⟩ := ih (s + 1) (by omega) u1 v1 R1
      refine ⟨u', v', R', fun post h => ?_, fun post J x1 x2 x3 h => ?_⟩
      · have t := tX post h
        obtain ⟨_, _, _, _, _, _, _, _, _, _, _, _, _, _, _, _, _, _, _, _, _, _, _, _, _, _, _, _, _, _, _, _, _, _, _, _, _, _, _, _, _, _, _, _, _, _, rfl, rfl, _⟩ := R1
        exact br_f hlt (sX _ (nm_r (nI_1 s) t))
      · have t := tY post J x1 x2 x3 h
        have e0 : ¬ QC (nI s).toNatClampNeg ≤ 0 := by
          rw [es]
          exact en
        obtain ⟨_, _, _, _, _, _, _, _, _, _, _, _, _, _, _, _, _, _, _, _, _, _, _, _, _, _, _, _, _, _, _, _, _, _, _, _, _, _, _, _, _, _, _, _, _, _, rfl, rfl, _⟩ := R1
        exact br_f hlt ⟨is4, br_f e0 (sY _ (nm_r (nI_1 s) t))⟩
def cs_YN (post : Int32 → SY → Prop) (J : Int32 → Int32 → Int32 → Int32 → (Nat → Int32) → (Nat → Int32) → (Nat → Int32) → (Nat → Int32) → (Nat → Int32) → (Nat → Int32) → (Nat → Int32) → (Nat → Int32) → (Nat → Int32) → (Nat → Int32) → (Nat → Int32) → (Nat → Int32) → (Nat → Int32) → (Nat → Int32) → (Nat → Int32) → (Nat → Int32) → (Nat → Int32) → (Nat → Int32) → (Nat → Int32) → (Nat → Int32) → (Nat → Int32) → (Nat → Int32) → (Nat → Int32) → (Nat → Int32) → (Nat → Int32) → (Nat → Int32) → (Nat → Int32) → (Nat → Int32) → (Nat → Int32) → (Nat → Int32) → (Nat → Int32) → Prop) (x1 x2 x3 : Int32) (v : SY) : Prop := match v with
  | (now, bs, bf, CN, BU, op, FR, TO, GA, TL, DU, W, WT, NY, KY, KO, KM, KT, NU, CI, LE, SP, BY, LA, HA, CA, WA, QC, QF, QL, QT, BX, BH, BB) => ∃ n40 : Nat, wY_pass_40 post J x1 x2 x3 n40 0 (now + 1) bs bf CN BU op FR TO GA TL DU W WT NY KY KO KM KT NU CI LE SP BY LA HA CA WA QC QF QL QT BX BH BB
theorem cs_tick {k : Nat} {u : SX} {v : SY} (I : i_Rel k u v) : ∃ u' v', i_Rel k u' v' ∧ (∀ post : SX → Prop, post u' → wpX_tick post u) ∧
    (∀ (post : Int32 → SY → Prop) (J : Int32 → Int32 → Int32 → Int32 → (Nat → Int32) → (Nat → Int32) → (Nat → Int32) → (Nat → Int32) → (Nat → Int32) → (Nat → Int32) → (Nat → Int32) → (Nat → Int32) → (Nat → Int32) → (Nat → Int32) → (Nat → Int32) → (Nat → Int32) → (Nat → Int32) → (Nat → Int32) → (Nat → Int32) → (Nat → Int32) → (Nat → Int32) → (Nat → Int32) → (Nat → Int32) → (Nat → Int32) → (Nat → Int32) → (Nat → Int32) → (Nat → Int32) → (Nat → Int32) → (Nat → Int32) → (Nat → Int32) → (Nat → Int32) → (Nat → Int32) → (Nat → Int32) → (Nat → Int32) → (Nat → Int32) → Prop) (x1 x2 x3 : Int32), cs_YJ J (x3 + 1) v' → cs_YN post J x1 x2 x3 v) := by
  obtain ⟨now, bf, bs, CN, FB, FZ, FC, op, FR, TO, GA, TL, DU, W, WF, NX, HD, KX, KF, KS, LA, TA, WA, QC, QX, BX, IF, BU, WT, NY, KY, KO, KM, KT, NU, CI, LE, SP, BY, HA, CA, QF, QL, QT, BH, BB, rfl, rfl, h1, h2, h3, h4, h5, h6, h7, h8, h9, h10, h11⟩ := I
  obtain ⟨u1, v1, R1, aX, aY⟩ := cs_T12 4 0 (by omega) (now + 1, (nI bf), (nI bs), CN, FB, FZ, FC, op, FR, TO, GA, TL, DU, W, WF, NX, HD, KX, KF, KS, LA, TA, WA, QC, QX, BX, IF) (now + 1, (nI bs), (nI bf), CN, BU, op, FR, TO, GA, TL, DU, W, WT, NY, KY, KO, KM, KT, NU, CI, LE, SP, BY, LA, HA, CA, WA, QC, QF, QL, QT, BX, BH, BB) (cs_mk h1 h2 h3 h4 h5 h6 h7 h8 h9 h10 h11)
  obtain ⟨u2, v2, R2, bX, bY⟩ := cs_T30 4 0 (by omega) u1 v1 R1
  refine ⟨u2, v2, R2, fun post h => ?_, fun post J x1 x2 x3 h => ?_⟩
  · exact nm_e ⟨5, aX post ⟨5, bX post h⟩⟩
  · exact ⟨5, aY post J x1 x2 x3 ⟨5, bY post J x1 x2 x3 h⟩⟩
theorem cs_pass {k m : Nat} (hm : m ≤ 200) (x2 : Int32) : ∀ d i, i + d = m → ∀ (u : SX) (v : SY), i_Rel k u v → ∃ r u' v', i_Rel k u' v' ∧ (∀ post : Int32 → SX → Prop, post r u' → cs_XP22 post (nI m) x2 (d + 1) (nI i) u) ∧
    (∀ post : Int32 → SY → Prop, post r v' → cs_YP22 post (nI m) x2 (d + 1) (nI i) v) := by
  intro d
  induction d with
  | zero =>
    intro i hi u v I
    have e : i = m := by omega
    subst e
    have I0 := I
    obtain ⟨now, bf, bs, CN, FB, FZ, FC, op, FR, TO, GA, TL, DU, W, WF, NX, HD, KX, KF, KS, LA, TA, WA, QC, QX, BX, IF, BU, WT, NY, KY, KO, KM, KT, NU, CI, LE, SP, BY, HA, CA, QF, QL, QT, BH, BB, rfl, rfl, h1, h2, h3, h4, h5, h6, h7, h8, h9, h10, h11⟩ := I
    exact ⟨_, _, _, I0, fun post h => br_t (Int32.le_refl _) h, fun post h => br_t (Int32.le_refl _) h⟩
  | succ d ih =>
    intro i hi u v I
    obtain ⟨u1, v1, R1, aX, aY⟩ := cs_tick I
    obtain ⟨r, u', v', R', bX, bY⟩ := ih (i + 1) (by omega) u1 v1 R1
    have hlt : ¬ nI m ≤ nI i := nI_ge (by omega) (by omega)
    refine ⟨r, u', v', R', fun post h => ?_, fun post h => ?_⟩
    · have t := bX post h
      obtain ⟨_, _, _, _, _, _, _, _, _, _, _, _, _, _, _, _, _, _, _, _, _, _, _, _, _, _, _, _, _, _, _, _, _, _, _, _, _, _, _, _, _, _, _, _, _, _, rfl, rfl, _⟩ := I
      obtain ⟨_, _, _, _, _, _, _, _, _, _, _, _, _, _, _, _, _, _, _, _, _, _, _, _, _, _, _, _, _, _, _, _, _, _, _, _, _, _, _, _, _, _, _, _, _, _, rfl, rfl, _⟩ := R1
      exact br_f hlt (aX _ (nm_r (nI_1 i) t))
    · have t := bY post h
      obtain ⟨_, _, _, _, _, _, _, _, _, _, _, _, _, _, _, _, _, _, _, _, _, _, _, _, _, _, _, _, _, _, _, _, _, _, _, _, _, _, _, _, _, _, _, _, _, _, rfl, rfl, _⟩ := I
      obtain ⟨_, _, _, _, _, _, _, _, _, _, _, _, _, _, _, _, _, _, _, _, _, _, _, _, _, _, _, _, _, _, _, _, _, _, _, _, _, _, _, _, _, _, _, _, _, _, rfl, rfl, _⟩ := R1
      refine br_f hlt (nm_e (aY post _ (nI m) x2 (nI i) ?_))
      rw [nI_1]
      exact t
end
section
theorem i_vc_pass {k : Nat} {u : SX} {v : SY} (I : i_Rel k u v) (hk : k + 5 ≤ 2560) (v1 : Int32) : wpX_pass (fun r u' => wpY_pass (fun r' v' => r' = r ∧ i_Rel (k + 5) u' v') v v1) u v1 := by
  have I' := i_up I
  have I0 := I
  obtain ⟨now, bf, bs, CN, FB, FZ, FC, op, FR, TO, GA, TL, DU, W, WF, NX, HD, KX, KF, KS, LA, TA, WA, QC, QX, BX, IF, BU, WT, NY, KY, KO, KM, KT, NU, CI, LE, SP, BY, HA, CA, QF, QL, QT, BH, BB, rfl, rfl, h1, h2, h3, h4, h5, h6, h7, h8, h9, h10, h11⟩ := I
  unfold wpX_pass wpY_pass
  by_cases q1 : v1 < 0
  · exact br_t q1 (br_t q1 ⟨rfl, I'⟩)
  refine br_f q1 ?_
  by_cases q2 : v1 ≤ 200
  · obtain ⟨m, hm, rfl⟩ := nI_of2 (n := 200) (by decide) q1 q2
    obtain ⟨r, u', v', R', aX, aY⟩ := cs_pass hm (CN 4) m 0 (by omega) _ _ I0
    have aX' : ∀ post : Int32 → SX → Prop, post r u' → wX_pass_22 post (nI m) (CN 4) (m + 1) 0 now (nI bf) (nI bs) CN FB FZ FC op FR TO GA TL DU W WF NX HD KX KF KS LA TA WA QC QX BX IF := aX
    have aY' : ∀ post : Int32 → SY → Prop, post r v' → wY_pass_22 post (nI m) (CN 4) (m + 1) 0 now (nI bs) (nI bf) CN BU op FR TO GA TL DU W WT NY KY KO KM KT NU CI LE SP BY LA HA CA WA QC QF QL QT BX BH BB := aY
    exact br_t q2 (nm_e ⟨m + 1, aX' _ (br_f q1 (br_t q2 (nm_e ⟨m + 1, aY' _ ⟨rfl, i_up R'⟩⟩)))⟩)
  · exact br_f q2 (br_f q1 (br_f q2 ⟨rfl, I'⟩))
end
section
/-! the start -/
theorem cs_seven (LA : Nat → Int32) (i : Nat) : upd (cs_cp LA 0 (fun _ => 7) i) i 7 = cs_cp LA 0 (fun _ => 7) (i + 1) := by
  have h := cs_cp_s LA 0 (fun _ => 7) i
  rw [Nat.zero_add] at h
  exact h
theorem cs_Xinit {now : Int32} {bf bs : Nat} {CN FB FZ FC op FR TO GA TL DU W WF NX HD KX KF KS LA TA WA QC QX BX IF : Nat → Int32} : ∀ d i, i + d = 4 → ∀ post : SX → Prop, post (now, (nI bf), (nI bs), CN, FB, FZ, FC, op, FR, TO, GA, TL, DU, W, WF, NX, HD, KX, KF, KS, cs_cp LA 0 (fun _ => 7) 4, TA, WA, QC, QX, BX, IF) → wX_init_196 post now (nI bf) (nI bs) (d + 1) (nI i) CN FB FZ FC op FR TO GA TL DU W WF NX HD KX KF KS (cs_cp LA 0 (fun _ => 7) i) TA WA QC QX BX IF := by
  intro d
  induction d with
  | zero =>
    intro i hi post hp
    have e : i = 4 := by omega
    subst e
    exact br_t (Int32.le_refl _) hp
  | succ d ih =>
    intro i hi post hp
    refine br_f (nI_ge (b := 4) (by omega) (by decide)) ?_
    rw [nI_clamp (show i < 2 ^ 31 by omega)]
    exact ⟨vp_in_nI (by omega) (by decide), nm_r (cs_seven LA i) (nm_r (nI_1 i) (ih (i + 1) (by omega) post hp))⟩
theorem cs_Yinit {now : Int32} {bf bs : Nat} {CN BU op FR TO GA TL DU W WT NY KY KO KM KT NU CI LE SP BY LA HA CA WA QC QF QL QT BX BH BB : Nat → Int32} : ∀ d i, i + d = 4 → ∀ post : SY → Prop, post (now, (nI bs), (nI bf), CN, BU, op, FR, TO, GA, TL, DU, W, WT, NY, KY, KO, KM, KT, NU, CI, LE, SP, BY, cs_cp LA 0 (fun _ => 7) 4, HA, CA, WA, QC, QF, QL, QT, BX, BH, BB) → wY_init_250 post now (nI bs) (nI bf) (d + 1) (nI i) CN BU op FR TO GA TL DU W WT NY KY KO KM KT NU CI LE SP BY (cs_cp LA 0 (fun _ => 7) i) HA CA WA QC QF QL QT BX BH BB := by
  intro d
  induction d with
  | zero =>
    intro i hi post hp
    have e : i = 4 := by omega
    subst e
    exact br_t (Int32.le_refl _) hp
  | succ d ih =>
    intro i hi post hp
    refine br_f (nI_ge (b := 4) (by omega) (by decide)) ?_
    rw [nI_clamp (show i < 2 ^ 31 by omega)]
    exact ⟨vp_in_nI (by omega) (by decide), nm_r (cs_seven LA i) (nm_r (nI_1 i) (ih (i + 1) (by omega) post hp))⟩
theorem cs_Xinit0 {now : Int32} {bf bs : Nat} {CN FB FZ FC op FR TO GA TL DU W WF NX HD KX KF KS LA TA WA QC QX BX IF : Nat → Int32} {post : SX → Prop} (hp : post (now, (nI bf), (nI bs), CN, FB, FZ, FC, op, FR, TO, GA, TL, DU, W, WF, NX, HD, KX, KF, KS, cs_cp LA 0 (fun _ => 7) 4, TA, WA, QC, QX, BX, IF)) : wX_init_196 post now (nI bf) (nI bs) 5 0 CN FB FZ FC op FR TO GA TL DU W WF NX HD KX KF KS LA TA WA QC QX BX IF := by
  have h := @cs_Xinit now bf bs CN FB FZ FC op FR TO GA TL DU W WF NX HD KX KF KS LA TA WA QC QX BX IF 4 0 (by omega) post hp
  rw [cs_cp_0] at h
  exact h
theorem cs_Yinit0 {now : Int32} {bf bs : Nat} {CN BU op FR TO GA TL DU W WT NY KY KO KM KT NU CI LE SP BY LA HA CA WA QC QF QL QT BX BH BB : Nat → Int32} {post : SY → Prop} (hp : post (now, (nI bs), (nI bf), CN, BU, op, FR, TO, GA, TL, DU, W, WT, NY, KY, KO, KM, KT, NU, CI, LE, SP, BY, cs_cp LA 0 (fun _ => 7) 4, HA, CA, WA, QC, QF, QL, QT, BX, BH, BB)) : wY_init_250 post now (nI bs) (nI bf) 5 0 CN BU op FR TO GA TL DU W WT NY KY KO KM KT NU CI LE SP BY LA HA CA WA QC QF QL QT BX BH BB := by
  have h := @cs_Yinit now bf bs CN BU op FR TO GA TL DU W WT NY KY KO KM KT NU CI LE SP BY LA HA CA WA QC QF QL QT BX BH BB 4 0 (by omega) post hp
  rw [cs_cp_0] at h
  exact h
theorem i_vc0 : wpX_init (fun u => wpY_init (fun v => i_Rel 0 u v)) := by
  unfold wpX_init wpY_init
  refine ⟨5, cs_Xinit0 (bf := 0) (bs := 0) ⟨5, cs_Yinit0 (bf := 0) (bs := 0) ?_⟩⟩
  refine cs_mk (bf := 0) (bs := 0) (by omega) (by omega) ⟨by omega, fun q => ?_⟩ (fun i hi => absurd hi (by omega)) (fun c _ => Or.inl ⟨rfl, rfl, rfl, fun _ => rfl⟩)
    (fun c _ => ⟨fun _ => ⟨rfl, rfl⟩, fun z => absurd rfl z⟩) (fun s _ => ⟨0, by omega, rfl, fun i hi => absurd hi (by omega)⟩) (fun s _ => ⟨0, by omega, rfl, fun i hi => absurd hi (by omega)⟩)
    (fun s _ => ⟨0, by omega, rfl, rfl, rfl⟩) (fun s hs => ⟨7, by omega, ?_⟩) (fun c _ => ⟨0, by omega, rfl⟩)
  · rcases q with q | ⟨c, _, q⟩
    · exact absurd q (by omega)
    · exact absurd rfl q
  · have h := cs_cp_in (a := fun _ => 0) (g := fun _ => 7) (s := 0) hs
    rw [Nat.zero_add] at h
    exact h
end
