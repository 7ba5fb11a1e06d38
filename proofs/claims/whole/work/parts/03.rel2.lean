/-! the relation's parts over other frames, bytes, circuits -/
theorem cs_W_mono {FP FP' : Nat → Nat → Nat → Nat → Prop} {op W WF WT HD SP NX NY : Nat → Int32} (h : cs_W FP op W WF WT HD SP NX NY) (g : ∀ f p c z, FP f p c z → FP' f p c z) :
    cs_W FP' op W WF WT HD SP NX NY := by
  intro c hc
  rcases h c hc with a | ⟨ho, hw, f, p, z, m, b1, b2, b3, b4⟩ | ⟨ho, hw, f, p, z, m, f', p', z', ⟨b1, b2, b3, b4⟩, d1, d2, d3, d4⟩
  · exact Or.inl a
  · exact Or.inr (Or.inl ⟨ho, hw, f, p, z, m, b1, b2, g _ _ _ _ b3, b4⟩)
  · exact Or.inr (Or.inr ⟨ho, hw, f, p, z, m, f', p', z', ⟨b1, b2, g _ _ _ _ b3, b4⟩, d1, d2, g _ _ _ _ d3, d4⟩)
theorem cs_Q_mono {FP FP' : Nat → Nat → Nat → Nat → Prop} {op TO QC QX QF QL QT : Nat → Int32} (h : cs_Q FP op TO QC QX QF QL QT) (g : ∀ f p c z, FP f p c z → FP' f p c z) :
    cs_Q FP' op TO QC QX QF QL QT := by
  intro s hs
  obtain ⟨n, hn, e, a⟩ := h s hs
  refine ⟨n, hn, e, fun i hi => ?_⟩
  obtain ⟨f, p, c, z, l, t, a1, a2, a3, a4, a5, a6, a7, a8⟩ := a i hi
  exact ⟨f, p, c, z, l, t, a1, a2, a3, a4, a5, a6, g _ _ _ _ a7, a8⟩
theorem cs_FP_fb {bf : Nat} {FC FZ FB FB' NU CI LE BY : Nat → Int32} (hB : ∀ j, j < 27 * bf → FB' j = FB j) (f p c z : Nat) (h : cs_FP bf FC FZ FB NU CI LE BY f p c z) :
    cs_FP bf FC FZ FB' NU CI LE BY f p c z := by
  obtain ⟨a1, a2, a3, a4, a5, a6, a7, a8, a9, a10, a11⟩ := h
  refine ⟨a1, a2, a3, a4, a5, a6, a7, a8, a9, a10, fun i hi => ?_⟩
  rw [hB _ (by omega)]
  exact a11 i hi
theorem cs_I_fb {bf bf' : Nat} {FC FZ FB FC' FZ' FB' BX IF BH BB : Nat → Int32} (h : cs_I bf FC FZ FB BX IF BH BB) (hb : bf ≤ bf') (hC : ∀ f, f < bf → FC' f = FC f) (hZ : ∀ f, f < bf → FZ' f = FZ f) (hB : ∀ j, j < 27 * bf → FB' j = FB j) :
    cs_I bf' FC' FZ' FB' BX IF BH BB := by
  intro s hs
  obtain ⟨n, hn, e, a⟩ := h s hs
  refine ⟨n, hn, e, fun i hi => ?_⟩
  obtain ⟨f, c, z, d1, d2, d3, d4, d5, d6, d7, d8, d9⟩ := a i hi
  refine ⟨f, c, z, d1, by omega, d3, d4, d5, by rw [hC f d2]; exact d6, by rw [hZ f d2]; exact d7, d8, fun q hq => ?_⟩
  rw [hB _ (by omega)]
  exact d9 q hq
/-! a circuit begins -/
theorem cs_W_begin {FP : Nat → Nat → Nat → Nat → Prop} {op W WF WT HD SP NX NY : Nat → Int32} {c : Nat} (h : cs_W FP op W WF WT HD SP NX NY) (ho : op c = 0) (hc : c < 8) :
    cs_W FP (upd op c 1) W WF WT HD SP NX (upd NY c 0) ∧ W c = 0 := by
  have hW : W c = nI 0 ∧ HD c = 0 ∧ NX c = 0 := by
    rcases h c hc with a | a | a
    · exact ⟨a.1, a.2.1, a.2.2.1⟩
    · exact absurd ho a.1
    · exact absurd ho a.1
  refine ⟨fun c' hc' => ?_, hW.1⟩
  by_cases e : c' = c
  · subst e
    exact Or.inl ⟨hW.1, hW.2.1, hW.2.2, fun _ => pk_us⟩
  · exact cs_Wc_ext (h c' hc') rfl rfl rfl rfl rfl rfl rfl (pk_un e) (fun _ _ _ _ => rfl) (pk_un e)
theorem cs_K_begin {op KX KY KF KO KS KM KT : Nat → Int32} {c : Nat} (h : cs_K op KX KY KF KO KS KM KT) (ho : op c = 0) (hc : c < 8) :
    cs_K (upd op c 1) KX (upd KY c 0) KF KO KS (upd KM c 0) (upd KT c 0) := by
  intro c' hc'
  by_cases e : c' = c
  · subst e
    obtain ⟨a, b⟩ := (h c' hc').1 ho
    rw [pk_us, pk_us, pk_us, pk_us, a, b]
    exact ⟨fun z => absurd z cs_10, fun _ => ⟨rfl, fun z => absurd rfl z, ⟨fun _ => ⟨rfl, rfl⟩, fun _ => rfl⟩⟩⟩
  · rw [pk_un e, pk_un e, pk_un e, pk_un e]
    exact h c' hc'
theorem cs_Q_begin {FP : Nat → Nat → Nat → Nat → Prop} {op TO QC QX QF QL QT : Nat → Int32} {c : Nat} {x : Int32} (h : cs_Q FP op TO QC QX QF QL QT) (ho : op c = 0) :
    cs_Q FP (upd op c 1) (upd TO c x) QC QX QF QL QT := by
  intro s hs
  obtain ⟨n, hn, e, a⟩ := h s hs
  refine ⟨n, hn, e, fun i hi => ?_⟩
  obtain ⟨f, p, d, z, l, t, a1, a2, a3, a4, a5, a6, a7, a8, a9⟩ := a i hi
  have hd : d ≠ c := fun q => a8 (by rw [q]; exact ho)
  exact ⟨f, p, d, z, l, t, a1, a2, a3, a4, a5, a6, a7, by rw [pk_un hd]; exact a8, by rw [pk_un hd]; exact a9⟩
/-! a circuit ends -/
theorem cs_W_end {FP : Nat → Nat → Nat → Nat → Prop} {op W WF WT HD SP NX NY : Nat → Int32} {c : Nat} (h : cs_W FP op W WF WT HD SP NX NY) :
    cs_W FP (upd op c 0) (upd W c 0) WF WT (upd HD c 0) SP (upd NX c 0) NY := by
  intro c' hc'
  by_cases e : c' = c
  · subst e
    exact Or.inl ⟨pk_us, pk_us, pk_us, fun z => absurd pk_us z⟩
  · exact cs_Wc_ext (h c' hc') (pk_un e) rfl rfl rfl rfl (pk_un e) (pk_un e) rfl (fun _ _ _ _ => rfl) (pk_un e)
theorem cs_K_end {op KX KY KF KO KS KM KT : Nat → Int32} {c : Nat} (h : cs_K op KX KY KF KO KS KM KT) :
    cs_K (upd op c 0) (upd KX c 0) KY KF KO (upd KS c 0) KM KT := by
  intro c' hc'
  by_cases e : c' = c
  · subst e
    rw [pk_us, pk_us, pk_us]
    exact ⟨fun _ => ⟨rfl, rfl⟩, fun z => absurd rfl z⟩
  · rw [pk_un e, pk_un e, pk_un e]
    exact h c' hc'
theorem cs_Q_end {bf : Nat} {FC FZ FB NU CI LE BY op TO QC QX QF QL QT : Nat → Int32} {c to : Nat} (h : cs_Q (cs_FP bf FC FZ FB NU CI LE BY) op TO QC QX QF QL QT) (hto : TO c = nI to) (hto4 : to < 4)
    (hno : ∀ n, n ≤ 6 → QC to = nI n → ∀ i, i < n → CI (QF (6 * to + i)).toNatClampNeg ≠ nI c) :
    cs_Q (cs_FP bf FC FZ FB NU CI LE BY) (upd op c 0) TO QC QX QF QL QT := by
  intro s hs
  obtain ⟨n, hn, e, a⟩ := h s hs
  refine ⟨n, hn, e, fun i hi => ?_⟩
  obtain ⟨f, p, d, z, l, t, a1, a2, a3, a4, a5, a6, a7, a8, a9⟩ := a i hi
  have hd : d ≠ c := by
    intro q
    rw [q, hto] at a9
    have es := cs_nI_inj (by omega) (by omega) a9
    subst es
    refine hno n hn e i hi ?_
    have hp := a7.1
    rw [a2, nI_clamp (by omega), ← q]
    exact a7.2.2.2.2.2.2.2.1
  exact ⟨f, p, d, z, l, t, a1, a2, a3, a4, a5, a6, a7, by rw [pk_un hd]; exact a8, a9⟩
/-! a frame is made -/
theorem cs_FP_old {bf : Nat} {FC FZ FB NU CI LE BY BU : Nat → Int32} {x1 x2 x3 x4 x5 : Int32} {q bs : Nat} (hbs : bs ≤ 27) {f p c z : Nat} (h : cs_FP bf FC FZ FB NU CI LE BY f p c z) (hq : p ≠ q) :
    cs_FP (bf + 1) (upd FC bf x1) (upd FZ bf x2) FB (upd NU q x3) (upd CI q x4) (upd LE q x5) (cs_cp BY (27 * q) BU bs) f p c z := by
  obtain ⟨a1, a2, a3, a4, a5, a6, a7, a8, a9, a10, a11⟩ := h
  have hf : f ≠ bf := by omega
  refine ⟨a1, by omega, a3, a4, a5, ?_, ?_, ?_, ?_, ?_, fun i hi => ?_⟩
  · rw [pk_un hq]; exact a6
  · rw [pk_un hf]; exact a7
  · rw [pk_un hq]; exact a8
  · rw [pk_un hf]; exact a9
  · rw [pk_un hq]; exact a10
  · rw [cs_cp_out (by omega)]; exact a11 i hi
theorem cs_FP_new {bf : Nat} {FC FZ FB NU CI LE BY BU : Nat → Int32} {q bs c : Nat} (hbs : bs ≤ 27) (hbs1 : 1 ≤ bs) (hc : c < 8) (hq : q < 64) (hB : ∀ i, i < bs → BU i = FB (27 * bf + i)) :
    cs_FP (bf + 1) (upd FC bf (nI c)) (upd FZ bf (nI bs)) FB (upd NU q (nI (bf + 1))) (upd CI q (nI c)) (upd LE q (nI bs)) (cs_cp BY (27 * q) BU bs) bf q c bs :=
  ⟨hq, by omega, hc, hbs1, hbs, pk_us, pk_us, pk_us, pk_us, pk_us, fun i hi => (cs_cp_in hi).trans (hB i hi)⟩
theorem cs_W_post {FP FP' : Nat → Nat → Nat → Nat → Prop} {op W WF WT HD SP NX NY : Nat → Int32} {c w q bf bs : Nat} (h : cs_W FP op W WF WT HD SP NX NY) (hc : c < 8) (ho : op c ≠ 0) (hw : w < 2) (hW : W c = nI w)
    (hbs1 : 1 ≤ bs) (hbf : bf ≤ 256) (hF : ∀ f p d z, FP f p d z → f < bf ∧ p < 64)
    (hU : ∀ d j n, d < 8 → n ≤ 2 → W d = nI n → j < n → WT (2 * d + j) ≠ nI q) (ho' : ∀ f p d z, FP f p d z → p ≠ q → FP' f p d z) (hn' : FP' bf q c bs) :
    cs_W FP' op (upd W c (nI (w + 1))) (upd WF (2 * c + w) (nI bf)) (upd WT (2 * c + w) (nI q)) HD (upd SP q 0) NX NY := by
  intro d hd
  by_cases e : d = c
  · subst e
    rcases h d hd with a | ⟨_, hw', f, p, z, m, b1, b2, b3, b4, b5, b6, b7⟩ | ⟨_, hw', _⟩
    · have ew : w = 0 := cs_nI_inj (by omega) (by omega) (hW.symm.trans a.1)
      subst ew
      refine Or.inr (Or.inl ⟨ho, pk_us, bf, q, bs, 0, pk_us, pk_us, hn', a.2.2.1, a.2.2.2 ho, by omega, ?_⟩)
      rw [pk_us, a.2.1]
    · have ew : w = 1 := cs_nI_inj (by omega) (by omega) (hW.symm.trans hw')
      subst ew
      have hp := hF _ _ _ _ b3
      have hpq : p ≠ q := fun z => hU d 0 1 hd (by omega) hW (by omega) (by rw [← z]; exact b2)
      refine Or.inr (Or.inr ⟨ho, pk_us, f, p, z, m, bf, q, bs, ⟨?_, ?_, ho' _ _ _ _ b3 hpq, b4, b5, b6, ?_⟩, pk_us, pk_us, hn', pk_us, by omega⟩)
      · rw [pk_un (by omega)]; exact b1
      · rw [pk_un (by omega)]; exact b2
      · rw [pk_un hpq]; exact b7
    · have ew : w = 2 := cs_nI_inj (by omega) (by omega) (hW.symm.trans hw')
      omega
  · unfold cs_Wc
    rw [pk_un e]
    rcases h d hd with a | ⟨ho1, hw', f, p, z, m, b1, b2, b3, b4, b5, b6, b7⟩ | ⟨ho1, hw', f, p, z, m, f', p', z', ⟨b1, b2, b3, b4, b5, b6, b7⟩, d1, d2, d3, d4, d5⟩
    · exact Or.inl a
    · have hpq : p ≠ q := fun z => hU d 0 1 hd (by omega) hw' (by omega) (by rw [← z]; exact b2)
      refine Or.inr (Or.inl ⟨ho1, hw', f, p, z, m, ?_, ?_, ho' _ _ _ _ b3 hpq, b4, b5, b6, ?_⟩)
      · rw [pk_un (by omega)]; exact b1
      · rw [pk_un (by omega)]; exact b2
      · rw [pk_un hpq]; exact b7
    · have hpq : p ≠ q := fun z => hU d 0 2 hd (by omega) hw' (by omega) (by rw [← z]; exact b2)
      have hpq' : p' ≠ q := fun z => hU d 1 2 hd (by omega) hw' (by omega) (by rw [← z]; exact d2)
      refine Or.inr (Or.inr ⟨ho1, hw', f, p, z, m, f', p', z', ⟨?_, ?_, ho' _ _ _ _ b3 hpq, b4, b5, b6, ?_⟩, ?_, ?_, ho' _ _ _ _ d3 hpq', ?_, d5⟩)
      · rw [pk_un (by omega)]; exact b1
      · rw [pk_un (by omega)]; exact b2
      · rw [pk_un hpq]; exact b7
      · rw [pk_un (by omega)]; exact d1
      · rw [pk_un (by omega)]; exact d2
      · rw [pk_un hpq']; exact d4
theorem cs_Q_post {FP FP' : Nat → Nat → Nat → Nat → Prop} {op TO QC QX QF QL QT : Nat → Int32} {q : Nat} (h : cs_Q FP op TO QC QX QF QL QT)
    (hU : ∀ s i n, s < 4 → n ≤ 6 → QC s = nI n → i < n → QF (6 * s + i) ≠ nI q) (ho' : ∀ f p d z, FP f p d z → p ≠ q → FP' f p d z) : cs_Q FP' op TO QC QX QF QL QT := by
  intro s hs
  obtain ⟨n, hn, e, a⟩ := h s hs
  refine ⟨n, hn, e, fun i hi => ?_⟩
  obtain ⟨f, p, c, z, l, t, a1, a2, a3, a4, a5, a6, a7, a8⟩ := a i hi
  have hpq : p ≠ q := fun z => hU s i n hs hn e hi (by rw [← z]; exact a2)
  exact ⟨f, p, c, z, l, t, a1, a2, a3, a4, a5, a6, ho' _ _ _ _ a7 hpq, a8⟩
/-! the bound on posts -/
theorem cs_N_up {k k' bf bs : Nat} {op : Nat → Int32} (h : cs_N k bf bs op) (hk : k ≤ k') : cs_N k' bf bs op := ⟨Nat.le_trans h.1 hk, fun q => Nat.le_trans (h.2 q) hk⟩
theorem cs_N_fill {k bf bs bs' : Nat} {op : Nat → Int32} (h : cs_N k bf bs op) : cs_N (k + 5) bf bs' op := by
  obtain ⟨a, b⟩ := h
  refine ⟨by omega, fun q => ?_⟩
  have := b q
  clear b q
  omega
theorem cs_N_begin {k bf bs c : Nat} {op : Nat → Int32} (h : cs_N k bf bs op) : cs_N (k + 5) bf bs (upd op c 1) := by
  obtain ⟨a, b⟩ := h
  clear b
  exact ⟨by omega, fun _ => by omega⟩
theorem cs_N_end {k bf bs c : Nat} {op : Nat → Int32} (h : cs_N k bf bs op) : cs_N k bf bs (upd op c 0) := by
  obtain ⟨a, b⟩ := h
  refine ⟨a, fun q => b ?_⟩
  rcases q with q | ⟨d, hd, e⟩
  · exact Or.inl q
  · by_cases z : d = c
    · exact absurd (cs_us z) e
    · rw [pk_un z] at e
      exact Or.inr ⟨d, hd, e⟩
theorem cs_N_post {k bf bs c : Nat} {op : Nat → Int32} (h : cs_N k bf bs op) (hk : k + 5 ≤ 2560) (hc : c < 8) (ho : op c ≠ 0) (hbs : 1 ≤ bs) : bf + 1 ≤ 255 ∧ cs_N (k + 5) (bf + 1) 0 op := by
  have b := h.2 (Or.inr ⟨c, hc, ho⟩)
  refine ⟨by omega, by omega, fun _ => by omega⟩
