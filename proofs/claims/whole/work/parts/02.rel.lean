/-! waiting: a cell is sent -/
theorem cs_W_get {FP : Nat → Nat → Nat → Nat → Prop} {op W WF WT HD SP NX NY : Nat → Int32} (h : cs_W FP op W WF WT HD SP NX NY) {c : Nat} (hc : c < 8) (hp : W c ≠ 0) :
    op c ≠ 0 ∧ ∃ w f p z m, w < 2 ∧ W c = nI (w + 1) ∧ cs_W1 FP WF WT HD SP NX NY c f p z m ∧ (w = 1 → ∃ f' p' z', cs_W2 FP WF WT SP c f f' p' z') := by
  rcases h c hc with a | a | a
  · exact absurd a.1 hp
  · obtain ⟨ho, hw, f, p, z, m, b⟩ := a
    exact ⟨ho, 0, f, p, z, m, by omega, hw, b, fun e => absurd e (by omega)⟩
  · obtain ⟨ho, hw, f, p, z, m, f', p', z', b, b'⟩ := a
    exact ⟨ho, 1, f, p, z, m, by omega, hw, b, fun _ => ⟨f', p', z', b'⟩⟩
theorem cs_W_val {FP : Nat → Nat → Nat → Nat → Prop} {op W WF WT HD SP NX NY : Nat → Int32} (h : cs_W FP op W WF WT HD SP NX NY) {c : Nat} (hc : c < 8) :
    ∃ w, w ≤ 2 ∧ W c = nI w := by
  rcases h c hc with a | a | a
  · exact ⟨0, by omega, a.1⟩
  · exact ⟨1, by omega, a.2.1⟩
  · exact ⟨2, by omega, a.2.1⟩
theorem cs_Wc_ext {FP : Nat → Nat → Nat → Nat → Prop} {op op' W WF WT HD SP NX NY W' WF' WT' HD' SP' NX' NY' : Nat → Int32} {c : Nat} (h : cs_Wc FP op W WF WT HD SP NX NY c)
    (h0 : W' c = W c) (h1 : WF' (2 * c) = WF (2 * c)) (h2 : WF' (2 * c + 1) = WF (2 * c + 1)) (h3 : WT' (2 * c) = WT (2 * c)) (h4 : WT' (2 * c + 1) = WT (2 * c + 1))
    (h5 : HD' c = HD c) (h6 : NX' c = NX c) (h7 : NY' c = NY c) (h8 : ∀ f p z, FP f p c z → SP' p = SP p) (h9 : op' c = op c := by rfl) : cs_Wc FP op' W' WF' WT' HD' SP' NX' NY' c := by
  unfold cs_Wc cs_W1 cs_W2 at *
  rw [h0, h1, h2, h3, h4, h5, h6, h7, h9]
  rcases h with a | ⟨ho, hw, f, p, z, m, b1, b2, b3, b4, b5, b6, b7⟩ | ⟨ho, hw, f, p, z, m, f', p', z', ⟨b1, b2, b3, b4, b5, b6, b7⟩, d1, d2, d3, d4, d5⟩
  · exact Or.inl a
  · exact Or.inr (Or.inl ⟨ho, hw, f, p, z, m, b1, b2, b3, b4, b5, b6, by rw [h8 f p z b3]; exact b7⟩)
  · exact Or.inr (Or.inr ⟨ho, hw, f, p, z, m, f', p', z', ⟨b1, b2, b3, b4, b5, b6, by rw [h8 f p z b3]; exact b7⟩, d1, d2, d3, by rw [h8 f' p' z' d3]; exact d4, d5⟩)
theorem cs_FP_ne {bf : Nat} {FC FZ FB NU CI LE BY : Nat → Int32} {f p c z f' p' c' z' : Nat} (h : cs_FP bf FC FZ FB NU CI LE BY f p c z) (h' : cs_FP bf FC FZ FB NU CI LE BY f' p' c' z')
    (hb : bf ≤ 256) (hn : c ≠ c' ∨ f ≠ f') : p ≠ p' := by
  intro e
  subst e
  obtain ⟨_, a2, a3, _, _, a6, _, a8, _⟩ := h
  obtain ⟨_, b2, b3, _, _, b6, _, b8, _⟩ := h'
  have e1 := cs_nI_inj (by omega) (by omega) (a6.symm.trans b6)
  have e2 := cs_nI_inj (by omega) (by omega) (a8.symm.trans b8)
  omega
/-! the two ways in which the marks of a broken frame go on -/
def cs_D (HD HD' SP SP' : Nat → Int32) (c p : Nat) : Prop := (HD' = HD ∧ SP' = SP) ∨ (HD' = upd HD c 1 ∧ SP' = upd SP p 1)
theorem cs_D_X {HD HD' SP SP' : Nat → Int32} {c p j : Nat} (h : cs_D HD HD' SP SP' c p) (e : j ≠ c) : HD' j = HD j := by
  rcases h with ⟨rfl, rfl⟩ | ⟨rfl, rfl⟩
  · rfl
  · rw [pk_un e]
theorem cs_D_Y {HD HD' SP SP' : Nat → Int32} {c p j : Nat} (h : cs_D HD HD' SP SP' c p) (e : j ≠ p) : SP' j = SP j := by
  rcases h with ⟨rfl, rfl⟩ | ⟨rfl, rfl⟩
  · rfl
  · rw [pk_un e]
theorem cs_D_c {HD HD' SP SP' : Nat → Int32} {c p : Nat} (h : cs_D HD HD' SP SP' c p) (e : HD c = 0 ↔ SP p = 0) : HD' c = 0 ↔ SP' p = 0 := by
  rcases h with ⟨rfl, rfl⟩ | ⟨rfl, rfl⟩
  · exact e
  · rw [pk_us, pk_us]
theorem cs_send1 {bf : Nat} {FC FZ FB NU CI LE BY op W WF WT HD SP NX NY HD' SP' : Nat → Int32} {w c f p z m : Nat} (hb : bf ≤ 256)
    (h : cs_W (cs_FP bf FC FZ FB NU CI LE BY) op W WF WT HD SP NX NY) (hc : c < 8) (ho : op c ≠ 0) (hw : w < 2) (hW : W c = nI (w + 1))
    (h1 : cs_W1 (cs_FP bf FC FZ FB NU CI LE BY) WF WT HD SP NX NY c f p z m) (h2 : w = 1 → ∃ f' p' z', cs_W2 (cs_FP bf FC FZ FB NU CI LE BY) WF WT SP c f f' p' z')
    (hD : cs_D HD HD' SP SP' c p) (hm : m + 1 < (z + 12) / 8) :
    cs_W (cs_FP bf FC FZ FB NU CI LE BY) op W WF WT HD' SP' (upd NX c (nI (m + 1))) (upd NY c (nI (m + 1))) := by
  obtain ⟨b1, b2, b3, b4, b5, b6, b7⟩ := h1
  intro c' hc'
  by_cases e : c' = c
  · subst e
    have g : cs_W1 (cs_FP bf FC FZ FB NU CI LE BY) WF WT HD' SP' (upd NX c' (nI (m + 1))) (upd NY c' (nI (m + 1))) c' f p z (m + 1) :=
      ⟨b1, b2, b3, pk_us, pk_us, hm, cs_D_c hD b7⟩
    rcases (show w = 0 ∨ w = 1 by omega) with q | q
    · subst q
      exact Or.inr (Or.inl ⟨ho, hW, f, p, z, m + 1, g⟩)
    · obtain ⟨f', p', z', d1, d2, d3, d4, d5⟩ := h2 q
      subst q
      refine Or.inr (Or.inr ⟨ho, hW, f, p, z, m + 1, f', p', z', g, d1, d2, d3, ?_, d5⟩)
      rw [cs_D_Y hD (cs_FP_ne d3 b3 hb (Or.inr d5))]
      exact d4
  · exact cs_Wc_ext (h c' hc') rfl rfl rfl rfl rfl (cs_D_X hD e) (pk_un e) (pk_un e) (fun f' p' z' q => cs_D_Y hD (cs_FP_ne q b3 hb (Or.inl e)))
theorem cs_send2 {bf : Nat} {FC FZ FB NU CI LE BY op W WF WT HD SP NX NY HD' SP' : Nat → Int32} {x y : Int32} {w c f p z m : Nat} (hb : bf ≤ 256)
    (h : cs_W (cs_FP bf FC FZ FB NU CI LE BY) op W WF WT HD SP NX NY) (hc : c < 8) (ho : op c ≠ 0) (hw : w < 2)
    (h1 : cs_W1 (cs_FP bf FC FZ FB NU CI LE BY) WF WT HD SP NX NY c f p z m) (h2 : w = 1 → ∃ f' p' z', cs_W2 (cs_FP bf FC FZ FB NU CI LE BY) WF WT SP c f f' p' z')
    (hD : cs_D HD HD' SP SP' c p) :
    cs_W (cs_FP bf FC FZ FB NU CI LE BY) op (upd W c (nI w)) (cs_mv WF 1 (2 * c) w) (upd WT (2 * c) (WT (2 * c + 1))) (upd HD' c 0) SP' (upd (upd NX c x) c 0) (upd (upd NY c y) c 0) := by
  obtain ⟨b1, b2, b3, b4, b5, b6, b7⟩ := h1
  intro c' hc'
  by_cases e : c' = c
  · subst e
    rcases (show w = 0 ∨ w = 1 by omega) with q | q
    · subst q
      exact Or.inl ⟨pk_us, pk_us, pk_us, fun _ => pk_us⟩
    · obtain ⟨f', p', z', d1, d2, d3, d4, d5⟩ := h2 q
      subst q
      refine Or.inr (Or.inl ⟨ho, pk_us, f', p', z', 0, ?_, ?_, d3, pk_us, pk_us, ?_, ?_⟩)
      · rw [cs_mv_in (by omega) (by omega)]
        exact d1
      · rw [pk_us]
        exact d2
      · have := d3.2.2.2.1
        omega
      · rw [pk_us, cs_D_Y hD (cs_FP_ne d3 b3 hb (Or.inr d5)), d4]
  · refine cs_Wc_ext (h c' hc') (pk_un e) (cs_mv_out (by omega)) (cs_mv_out (by omega)) (pk_un (by omega)) (pk_un (by omega)) ?_ ?_ ?_ (fun f' p' z' q => cs_D_Y hD (cs_FP_ne q b3 hb (Or.inl e)))
    · rw [pk_un e]
      exact cs_D_X hD e
    · rw [pk_un e, pk_un e]
    · rw [pk_un e, pk_un e]
/-! queues: a cell enters, a cell leaves -/
theorem cs_Q_in {FP : Nat → Nat → Nat → Nat → Prop} {op TO QC QX QF QL QT : Nat → Int32} {s n f p c z l t : Nat} (h : cs_Q FP op TO QC QX QF QL QT) (hs : s < 4) (hn : n < 6)
    (hq : QC s = nI n) (hl : l ≤ 1) (ht : t ≤ 1) (hf : FP f p c z) (ho : op c ≠ 0) (hto : TO c = nI s) :
    cs_Q FP op TO (upd QC s (nI (n + 1))) (upd QX (6 * s + n) (nI (4 * f + 2 * l + t))) (upd QF (6 * s + n) (nI p)) (upd QL (6 * s + n) (nI l)) (upd QT (6 * s + n) (nI t)) := by
  intro s' hs'
  obtain ⟨n', hn', e', g⟩ := h s' hs'
  by_cases e : s' = s
  · subst e
    have en : n' = n := cs_nI_inj (by omega) (by omega) (e'.symm.trans hq)
    subst en
    refine ⟨n' + 1, by omega, pk_us, fun i hi => ?_⟩
    by_cases ei : i = n'
    · subst ei
      exact ⟨f, p, c, z, l, t, pk_us, pk_us, pk_us, pk_us, hl, ht, hf, ho, hto⟩
    · unfold cs_Qs
      rw [pk_un (by omega), pk_un (by omega), pk_un (by omega), pk_un (by omega)]
      exact g i (by omega)
  · refine ⟨n', hn', by rw [pk_un e]; exact e', fun i hi => ?_⟩
    unfold cs_Qs
    rw [pk_un (by omega), pk_un (by omega), pk_un (by omega), pk_un (by omega)]
    exact g i hi
theorem cs_Q_out {FP : Nat → Nat → Nat → Nat → Prop} {op TO QC QX QF QL QT : Nat → Int32} {s n : Nat} (h : cs_Q FP op TO QC QX QF QL QT) (hs : s < 4) (hn : n < 6)
    (hq : QC s = nI (n + 1)) :
    cs_Q FP op TO (upd QC s (nI n)) (cs_mv QX 1 (6 * s) n) (cs_mv QF 1 (6 * s) n) (cs_mv QL 1 (6 * s) n) (cs_mv QT 1 (6 * s) n) := by
  intro s' hs'
  obtain ⟨n', hn', e', g⟩ := h s' hs'
  by_cases e : s' = s
  · subst e
    have en : n' = n + 1 := cs_nI_inj (by omega) (by omega) (e'.symm.trans hq)
    subst en
    refine ⟨n, by omega, pk_us, fun i hi => ?_⟩
    unfold cs_Qs
    rw [cs_mv_in (by omega) (by omega), cs_mv_in (by omega) (by omega), cs_mv_in (by omega) (by omega), cs_mv_in (by omega) (by omega)]
    exact g (i + 1) (by omega)
  · refine ⟨n', hn', by rw [pk_un e]; exact e', fun i hi => ?_⟩
    unfold cs_Qs
    rw [cs_mv_out (by omega), cs_mv_out (by omega), cs_mv_out (by omega), cs_mv_out (by omega)]
    exact g i hi
/-! inboxes -/
theorem cs_I_in {bf : Nat} {FC FZ FB NU CI LE BY BX IF BH BB : Nat → Int32} {s n f p c z : Nat} (h : cs_I bf FC FZ FB BX IF BH BB) (hs : s < 4) (hn : n < 4)
    (hq : BX s = nI n) (hf : cs_FP bf FC FZ FB NU CI LE BY f p c z) :
    cs_I bf FC FZ FB (upd BX s (nI (n + 1))) (upd IF (4 * s + n) (nI f)) (upd BH (4 * s + n) (nI (32 * c + z))) (cs_cp BB (27 * (4 * s + n)) (fun i => BY (27 * p + i)) 27) := by
  obtain ⟨a1, a2, a3, a4, a5, a6, a7, a8, a9, a10, a11⟩ := hf
  intro s' hs'
  obtain ⟨n', hn', e', g⟩ := h s' hs'
  have old : ∀ j, j ≠ 4 * s + n → cs_Is bf FC FZ FB IF BH BB j → cs_Is bf FC FZ FB (upd IF (4 * s + n) (nI f)) (upd BH (4 * s + n) (nI (32 * c + z))) (cs_cp BB (27 * (4 * s + n)) (fun i => BY (27 * p + i)) 27) j := by
    intro j hj ⟨f1, c1, z1, d1, d2, d3, d4, d5, d6, d7, d8, d9⟩
    refine ⟨f1, c1, z1, by rw [pk_un hj]; exact d1, d2, d3, d4, d5, d6, d7, by rw [pk_un hj]; exact d8, fun i hi => ?_⟩
    rw [cs_cp_out (by omega)]
    exact d9 i hi
  by_cases e : s' = s
  · subst e
    have en : n' = n := cs_nI_inj (by omega) (by omega) (e'.symm.trans hq)
    subst en
    refine ⟨n' + 1, by omega, pk_us, fun i hi => ?_⟩
    by_cases ei : i = n'
    · subst ei
      refine ⟨f, c, z, pk_us, a2, a3, a4, a5, a7, a9, pk_us, fun q hq => ?_⟩
      rw [cs_cp_in (by omega)]
      exact a11 q hq
    · exact old _ (by omega) (g i (by omega))
  · exact ⟨n', hn', by rw [pk_un e]; exact e', fun i hi => old _ (by omega) (g i hi)⟩
theorem cs_I_out {bf : Nat} {FC FZ FB BX IF BH BB : Nat → Int32} {s n : Nat} (h : cs_I bf FC FZ FB BX IF BH BB) (hs : s < 4) (hn : n < 4)
    (hq : BX s = nI (n + 1)) :
    cs_I bf FC FZ FB (upd BX s (nI n)) (cs_mv IF 1 (4 * s) n) (cs_mv BH 1 (4 * s) n) (cs_mv BB 27 (108 * s) (27 * n)) := by
  intro s' hs'
  obtain ⟨n', hn', e', g⟩ := h s' hs'
  by_cases e : s' = s
  · subst e
    have en : n' = n + 1 := cs_nI_inj (by omega) (by omega) (e'.symm.trans hq)
    subst en
    refine ⟨n, by omega, pk_us, fun i hi => ?_⟩
    obtain ⟨f1, c1, z1, d1, d2, d3, d4, d5, d6, d7, d8, d9⟩ := g (i + 1) (by omega)
    refine ⟨f1, c1, z1, ?_, d2, d3, d4, d5, d6, d7, ?_, fun q hq => ?_⟩
    · rw [cs_mv_in (by omega) (by omega)]
      exact d1
    · rw [cs_mv_in (by omega) (by omega)]
      exact d8
    · rw [cs_mv_in (by omega) (by omega), ← d9 q hq]
      exact congrArg BB (by omega)
  · refine ⟨n', hn', by rw [pk_un e]; exact e', fun i hi => ?_⟩
    obtain ⟨f1, c1, z1, d1, d2, d3, d4, d5, d6, d7, d8, d9⟩ := g i hi
    refine ⟨f1, c1, z1, ?_, d2, d3, d4, d5, d6, d7, ?_, fun q hq => ?_⟩
    · rw [cs_mv_out (by omega)]
      exact d1
    · rw [cs_mv_out (by omega)]
      exact d8
    · rw [cs_mv_out (by omega)]
      exact d9 q hq
/-! what is kept: at one circuit -/
theorem cs_K_at {op KX KY KF KO KS KM KT KX' KY' KF' KO' KS' KM' KT' : Nat → Int32} {c : Nat} (h : cs_K op KX KY KF KO KS KM KT) (ho : op c ≠ 0)
    (e1 : ∀ j, j ≠ c → KX' j = KX j) (e2 : ∀ j, j ≠ c → KY' j = KY j) (e3 : ∀ j, j ≠ c → KF' j = KF j) (e4 : ∀ j, j ≠ c → KO' j = KO j)
    (e5 : ∀ j, j ≠ c → KS' j = KS j) (e6 : ∀ j, j ≠ c → KM' j = KM j) (e7 : ∀ j, j ≠ c → KT' j = KT j)
    (g1 : KX' c = KY' c) (g2 : KX' c ≠ 0 → KO' c = KF' c + 1) (g3 : KS' c = 0 ↔ (KM' c = 0 ∧ KT' c = 0)) : cs_K op KX' KY' KF' KO' KS' KM' KT' := by
  intro j hj
  by_cases e : j = c
  · subst e
    exact ⟨fun z => absurd z ho, fun _ => ⟨g1, g2, g3⟩⟩
  · rw [e1 j e, e2 j e, e3 j e, e4 j e, e5 j e, e6 j e, e7 j e]
    exact h j hj
theorem cs_T_0 {TA HA CA : Nat → Int32} {s t : Nat} {x y z : Int32} (h : cs_T TA HA CA) (ht : t ≤ 3) (hx : x = nI t) (hy : y = nI (if t = 3 then 0 else t)) (hz : z = nI (if t = 3 then 1 else 0)) :
    cs_T (upd TA s x) (upd HA s y) (upd CA s z) := by
  intro j hj
  by_cases e : j = s
  · exact ⟨t, ht, by rw [cs_us e]; exact hx, by rw [cs_us e]; exact hy, by rw [cs_us e]; exact hz⟩
  · rw [pk_un e, pk_un e, pk_un e]
    exact h j hj
theorem cs_L_u {n N s l : Nat} {a : Nat → Int32} {x : Int32} (h : cs_L n a N) (hl : l < N) (hx : x = nI l) : cs_L n (upd a s x) N := by
  intro j hj
  by_cases e : j = s
  · exact ⟨l, hl, by rw [cs_us e]; exact hx⟩
  · rw [pk_un e]
    exact h j hj
