def cs_Uw (W WT : Nat → Int32) (q k : Nat) : Prop := ∃ n, n ≤ 2 ∧ W (k / 2) = nI n ∧ k % 2 < n ∧ WT k = nI q
def cs_Uq (QC QF : Nat → Int32) (q k : Nat) : Prop := ∃ n, n ≤ 6 ∧ QC (k / 6) = nI n ∧ k % 6 < n ∧ QF k = nI q
theorem cs_cells {z : Nat} (h : z ≤ 27) : (nI z + 12) / 8 = nI ((z + 12) / 8) := by
  have e := pk_div (a := z + 12) (d := 8) (by omega) (by decide) (by decide)
  rw [← nI_add] at e
  exact e
theorem cs_Xcells {now : Int32} {bf bs : Nat} {CN FB FZ FC op FR TO GA TL DU W WF NX HD KX KF KS LA TA WA QC QX BX IF : Nat → Int32} {f z : Nat} (hf : f < 256) (hz : z ≤ 27) (e : FZ f = nI z) {post : Int32 → Prop} (hp : post (nI ((z + 12) / 8))) : wpX_cellsOf post (now, (nI bf), (nI bs), CN, FB, FZ, FC, op, FR, TO, GA, TL, DU, W, WF, NX, HD, KX, KF, KS, LA, TA, WA, QC, QX, BX, IF) (nI f) := by
  unfold wpX_cellsOf
  dsimp only
  rw [nI_clamp (show f < 2 ^ 31 by omega), e, cs_cells hz]
  exact ⟨vp_in_nI hf (by decide), cs_z8, hp⟩
theorem cs_Ycells {now : Int32} {bf bs : Nat} {CN BU op FR TO GA TL DU W WT NY KY KO KM KT NU CI LE SP BY LA HA CA WA QC QF QL QT BX BH BB : Nat → Int32} {p z : Nat} (hp : p < 64) (hz : z ≤ 27) (e : LE p = nI z) {post : Int32 → Prop} (hq : post (nI ((z + 12) / 8))) : wpY_cellsOf post (now, (nI bs), (nI bf), CN, BU, op, FR, TO, GA, TL, DU, W, WT, NY, KY, KO, KM, KT, NU, CI, LE, SP, BY, LA, HA, CA, WA, QC, QF, QL, QT, BX, BH, BB) (nI p) := by
  unfold wpY_cellsOf
  dsimp only
  rw [nI_clamp (show p < 2 ^ 31 by omega), e, cs_cells hz]
  exact ⟨vp_in_nI hp (by decide), cs_z8, hq⟩
theorem cs_pu2 {now : Int32} {bf bs : Nat} {CN BU op FR TO GA TL DU W WT NY KY KO KM KT NU CI LE SP BY LA HA CA WA QC QF QL QT BX BH BB : Nat → Int32} {q : Nat} (hq : ∀ s, s < 4 → ∃ n, n ≤ 6 ∧ QC s = nI n) : ∀ d j, j + d = 24 → ∃ r : Nat, ((r = 1 ∧ ∃ k, k < 24 ∧ cs_Uq QC QF q k) ∨ (r = 0 ∧ ∀ k, j ≤ k → k < 24 → ¬ cs_Uq QC QF q k)) ∧
    ∀ post : Int32 → Prop, post (nI r) → wY_isPlaceUsed_42 post (nI q) now (nI bs) (nI bf) CN BU op FR TO GA TL DU W WT NY KY KO KM KT NU CI LE SP BY LA HA CA WA QC QF QL QT BX BH BB (d + 1) (nI j) := by
  intro d
  induction d with
  | zero =>
    intro j hj
    have e : j = 24 := by omega
    subst e
    exact ⟨0, Or.inr ⟨rfl, fun k h1 h2 => absurd h2 (by omega)⟩, fun post hp => br_t (Int32.le_refl _) hp⟩
  | succ d ih =>
    intro j hj
    have h24 : ¬ (24 : Int32) ≤ nI j := nI_ge (b := 24) (by omega) (by decide)
    obtain ⟨n, hn, en⟩ := hq (j / 6) (by omega)
    have e6 : nI j / 6 = nI (j / 6) := pk_div (d := 6) (by omega) (by decide) (by decide)
    have r6 : nI j - nI j / 6 * 6 = nI (j % 6) := pk_rem (d := 6) (by omega) (by decide) (by decide)
    have c6 : (nI (j / 6)).toNatClampNeg = j / 6 := nI_clamp (by omega)
    have cj : (nI j).toNatClampNeg = j := nI_clamp (by omega)
    have i6 : vp_in (nI (j / 6)) 4 := vp_in_nI (by omega) (by decide)
    have ij : vp_in (nI j) 24 := vp_in_nI (by omega) (by decide)
    obtain ⟨r, hr, hW⟩ := ih (j + 1) (by omega)
    by_cases u : cs_Uq QC QF q j
    · refine ⟨1, Or.inl ⟨rfl, j, by omega, u⟩, fun post hp => br_f h24 ⟨cs_z6, cs_z6, ?_⟩⟩
      obtain ⟨n', hn', en', hlt, eq⟩ := u
      rw [r6, e6, c6, en', cj, eq]
      exact ⟨i6, br_f (nI_ge hlt (by omega)) ⟨ij, br_t rfl hp⟩⟩
    · refine ⟨r, ?_, fun post hp => br_f h24 ⟨cs_z6, cs_z6, ?_⟩⟩
      · rcases hr with a | ⟨a, b⟩
        · exact Or.inl a
        · refine Or.inr ⟨a, fun k hk hk2 => ?_⟩
          by_cases e : k = j
          · rw [e]; exact u
          · exact b k (by omega) hk2
      · rw [r6, e6, c6, en, cj]
        by_cases hl : n ≤ j % 6
        · exact ⟨i6, br_t (nI_le hl (by omega)) (nm_r (nI_1 j) (hW post hp))⟩
        · have hne : ¬ QF j = nI q := fun z => u ⟨n, hn, en, by omega, z⟩
          exact ⟨i6, br_f (nI_ge (by omega) (by omega)) ⟨ij, br_f hne (nm_r (nI_1 j) (hW post hp))⟩⟩
theorem cs_pu1 {now : Int32} {bf bs : Nat} {CN BU op FR TO GA TL DU W WT NY KY KO KM KT NU CI LE SP BY LA HA CA WA QC QF QL QT BX BH BB : Nat → Int32} {q : Nat} (hw : ∀ c, c < 8 → ∃ n, n ≤ 2 ∧ W c = nI n) (hq : ∀ s, s < 4 → ∃ n, n ≤ 6 ∧ QC s = nI n) : ∀ d j, j + d = 16 →
    ∃ r : Nat, ((r = 1 ∧ ((∃ k, k < 16 ∧ cs_Uw W WT q k) ∨ ∃ k, k < 24 ∧ cs_Uq QC QF q k)) ∨ (r = 0 ∧ (∀ k, j ≤ k → k < 16 → ¬ cs_Uw W WT q k) ∧ ∀ k, k < 24 → ¬ cs_Uq QC QF q k)) ∧
    ∀ post : Int32 → Prop, post (nI r) → wY_isPlaceUsed_2 post (nI q) now (nI bs) (nI bf) CN BU op FR TO GA TL DU W WT NY KY KO KM KT NU CI LE SP BY LA HA CA WA QC QF QL QT BX BH BB (d + 1) (nI j) := by
  intro d
  induction d with
  | zero =>
    intro j hj
    have e : j = 16 := by omega
    subst e
    obtain ⟨r, hr, hW⟩ := @cs_pu2 now bf bs CN BU op FR TO GA TL DU W WT NY KY KO KM KT NU CI LE SP BY LA HA CA WA QC QF QL QT BX BH BB q hq 24 0 (by omega)
    refine ⟨r, ?_, fun post hp => br_t (Int32.le_refl _) ⟨25, hW post hp⟩⟩
    rcases hr with ⟨a, b⟩ | ⟨a, b⟩
    · exact Or.inl ⟨a, Or.inr b⟩
    · exact Or.inr ⟨a, fun k h1 h2 => absurd h2 (by omega), fun k h => b k (by omega) h⟩
  | succ d ih =>
    intro j hj
    have h24 : ¬ (16 : Int32) ≤ nI j := nI_ge (b := 16) (by omega) (by decide)
    obtain ⟨n, hn, en⟩ := hw (j / 2) (by omega)
    have e6 : nI j / 2 = nI (j / 2) := pk_div (d := 2) (by omega) (by decide) (by decide)
    have r6 : nI j - nI j / 2 * 2 = nI (j % 2) := pk_rem (d := 2) (by omega) (by decide) (by decide)
    have c6 : (nI (j / 2)).toNatClampNeg = j / 2 := nI_clamp (by omega)
    have cj : (nI j).toNatClampNeg = j := nI_clamp (by omega)
    have i6 : vp_in (nI (j / 2)) 8 := vp_in_nI (by omega) (by decide)
    have ij : vp_in (nI j) 16 := vp_in_nI (by omega) (by decide)
    obtain ⟨r, hr, hW⟩ := ih (j + 1) (by omega)
    by_cases u : cs_Uw W WT q j
    · refine ⟨1, Or.inl ⟨rfl, Or.inl ⟨j, by omega, u⟩⟩, fun post hp => br_f h24 ⟨cs_z2, cs_z2, ?_⟩⟩
      obtain ⟨n', hn', en', hlt, eq⟩ := u
      rw [r6, e6, c6, en', cj, eq]
      exact ⟨i6, br_f (nI_ge hlt (by omega)) ⟨ij, br_t rfl hp⟩⟩
    · refine ⟨r, ?_, fun post hp => br_f h24 ⟨cs_z2, cs_z2, ?_⟩⟩
      · rcases hr with a | ⟨a, b, b'⟩
        · exact Or.inl a
        · refine Or.inr ⟨a, fun k hk hk2 => ?_, b'⟩
          by_cases e : k = j
          · rw [e]; exact u
          · exact b k (by omega) hk2
      · rw [r6, e6, c6, en, cj]
        by_cases hl : n ≤ j % 2
        · exact ⟨i6, br_t (nI_le hl (by omega)) (nm_r (nI_1 j) (hW post hp))⟩
        · have hne : ¬ WT j = nI q := fun z => u ⟨n, hn, en, by omega, z⟩
          exact ⟨i6, br_f (nI_ge (by omega) (by omega)) ⟨ij, br_f hne (nm_r (nI_1 j) (hW post hp))⟩⟩
theorem cs_used {now : Int32} {bf bs : Nat} {CN BU op FR TO GA TL DU W WT NY KY KO KM KT NU CI LE SP BY LA HA CA WA QC QF QL QT BX BH BB : Nat → Int32} (q : Nat) (hw : ∀ c, c < 8 → ∃ n, n ≤ 2 ∧ W c = nI n) (hq : ∀ s, s < 4 → ∃ n, n ≤ 6 ∧ QC s = nI n) :
    ∃ r : Nat, ((r = 1 ∧ ((∃ k, k < 16 ∧ cs_Uw W WT q k) ∨ ∃ k, k < 24 ∧ cs_Uq QC QF q k)) ∨ (r = 0 ∧ (∀ k, k < 16 → ¬ cs_Uw W WT q k) ∧ ∀ k, k < 24 → ¬ cs_Uq QC QF q k)) ∧
    ∀ post : Int32 → Prop, post (nI r) → wpY_isPlaceUsed post (now, (nI bs), (nI bf), CN, BU, op, FR, TO, GA, TL, DU, W, WT, NY, KY, KO, KM, KT, NU, CI, LE, SP, BY, LA, HA, CA, WA, QC, QF, QL, QT, BX, BH, BB) (nI q) := by
  obtain ⟨r, hr, hW⟩ := @cs_pu1 now bf bs CN BU op FR TO GA TL DU W WT NY KY KO KM KT NU CI LE SP BY LA HA CA WA QC QF QL QT BX BH BB q hw hq 16 0 (by omega)
  refine ⟨r, ?_, fun post hp => ⟨17, hW post hp⟩⟩
  rcases hr with a | ⟨a, b, b'⟩
  · exact Or.inl a
  · exact Or.inr ⟨a, fun k hk => b k (by omega) hk, b'⟩
theorem cs_pcopy {now : Int32} {bf bs : Nat} {CN BU op FR TO GA TL DU W WT NY KY KO KM KT NU CI LE SP BY LA HA CA WA QC QF QL QT BX BH BB : Nat → Int32} {q c w : Nat} {fr : Int32} (hbs : bs ≤ 27) (hq : q < 64) (hc : c < 8) (hw : w < 2) (hW : W c = nI w) (hL : LE q = nI bs) : ∀ d i, i + d = bs → ∀ post : Int32 → SY → Prop,
    post (nI ((bs + 12) / 8)) (now, 0, fr, CN, BU, op, FR, TO, GA, TL, DU, upd W c (nI (w + 1)), upd WT (2 * c + w) (nI q), NY, KY, KO, KM, KT, NU, CI, LE, SP, cs_cp BY (27 * q) BU bs, LA, HA, CA, WA, QC, QF, QL, QT, BX, BH, BB) →
    wY_post_104 post (nI c) (nI q) now (nI bs) fr (d + 1) (nI i) CN BU op FR TO GA TL DU W WT NY KY KO KM KT NU CI LE SP (cs_cp BY (27 * q) BU i) LA HA CA WA QC QF QL QT BX BH BB := by
  intro d
  induction d with
  | zero =>
    intro i hi post hp
    have e : i = bs := by omega
    subst e
    refine br_t (Int32.le_refl _) ?_
    have ic : vp_in (nI c) 8 := vp_in_nI hc (by decide)
    rw [cs_2m, nI_clamp (show c < 2 ^ 31 by omega), hW, nI_add, nI_clamp (show 2 * c + w < 2 ^ 31 by omega), nI_1 w]
    refine ⟨ic, vp_in_nI (by omega) (by decide), nm_e ⟨ic, ic, nm_e ?_⟩⟩
    unfold wpY_cellsOf
    dsimp only
    rw [nI_clamp (show q < 2 ^ 31 by omega), hL, cs_cells hbs]
    exact ⟨vp_in_nI hq (by decide), cs_z8, hp⟩
  | succ d ih =>
    intro i hi post hp
    refine br_f (nI_ge (by omega) (by omega)) ?_
    rw [cs_27m, nI_add, nI_clamp (show 27 * q + i < 2 ^ 31 by omega), nI_clamp (show i < 2 ^ 31 by omega)]
    exact ⟨vp_in_nI (by omega) (by decide), vp_in_nI (by omega) (by decide), nm_r (cs_cp_s BY (27 * q) BU i) (nm_r (nI_1 i) (ih (i + 1) (by omega) post hp))⟩
theorem cs_pcopy0 {now : Int32} {bf bs : Nat} {CN BU op FR TO GA TL DU W WT NY KY KO KM KT NU CI LE SP BY LA HA CA WA QC QF QL QT BX BH BB : Nat → Int32} {q c w : Nat} {fr : Int32} (hbs : bs ≤ 27) (hq : q < 64) (hc : c < 8) (hw : w < 2) (hW : W c = nI w) (hL : LE q = nI bs) (post : Int32 → SY → Prop)
    (hp : post (nI ((bs + 12) / 8)) (now, 0, fr, CN, BU, op, FR, TO, GA, TL, DU, upd W c (nI (w + 1)), upd WT (2 * c + w) (nI q), NY, KY, KO, KM, KT, NU, CI, LE, SP, cs_cp BY (27 * q) BU bs, LA, HA, CA, WA, QC, QF, QL, QT, BX, BH, BB)) :
    wY_post_104 post (nI c) (nI q) now (nI bs) fr (bs + 1) 0 CN BU op FR TO GA TL DU W WT NY KY KO KM KT NU CI LE SP BY LA HA CA WA QC QF QL QT BX BH BB := by
  have h := @cs_pcopy now bf bs CN BU op FR TO GA TL DU W WT NY KY KO KM KT NU CI LE SP BY LA HA CA WA QC QF QL QT BX BH BB q c w fr hbs hq hc hw hW hL bs 0 (by omega) post hp
  rw [cs_cp_0] at h
  exact h
theorem cs_Ypost {now : Int32} {bf bs : Nat} {CN BU op FR TO GA TL DU W WT NY KY KO KM KT NU CI LE SP BY LA HA CA WA QC QF QL QT BX BH BB : Nat → Int32} {c w p0 : Nat} (hbs : bs ≤ 27) (hc : c < 8) (hw2 : w < 2) (hW : W c = nI w) (hw : ∀ c, c < 8 → ∃ n, n ≤ 2 ∧ W c = nI n) (hq : ∀ s, s < 4 → ∃ n, n ≤ 6 ∧ QC s = nI n)
    (hp0 : p0 < 64) (hf1 : ∀ k, k < 16 → ¬ cs_Uw W WT p0 k) (hf2 : ∀ k, k < 24 → ¬ cs_Uq QC QF p0 k) : ∀ d q, q + d = p0 →
    ∃ q', q' < 64 ∧ (∀ k, k < 16 → ¬ cs_Uw W WT q' k) ∧ (∀ k, k < 24 → ¬ cs_Uq QC QF q' k) ∧ ∀ post : Int32 → SY → Prop,
    post (nI ((bs + 12) / 8)) (now, 0, nI (bf + 1), CN, BU, op, FR, TO, GA, TL, DU, upd W c (nI (w + 1)), upd WT (2 * c + w) (nI q'), NY, KY, KO, KM, KT, upd NU q' (nI (bf + 1)), upd CI q' (nI c), upd LE q' (nI bs), upd SP q' 0, cs_cp BY (27 * q') BU bs, LA, HA, CA, WA, QC, QF, QL, QT, BX, BH, BB) →
    wY_post_44 post (nI c) now (nI bs) (nI bf) CN BU op FR TO GA TL DU W WT NY KY KO KM KT NU CI LE SP BY LA HA CA WA QC QF QL QT BX BH BB (d + 1) (nI q) := by
  intro d
  induction d with
  | zero =>
    intro q hqd
    obtain ⟨r, hr, hU⟩ := @cs_used now bf bs CN BU op FR TO GA TL DU W WT NY KY KO KM KT NU CI LE SP BY LA HA CA WA QC QF QL QT BX BH BB q hw hq
    have e : q = p0 := by omega
    subst e
    rcases hr with ⟨_, a | a⟩ | ⟨a, b, b'⟩
    · obtain ⟨k, hk, a⟩ := a
      exact absurd a (hf1 k hk)
    · obtain ⟨k, hk, a⟩ := a
      exact absurd a (hf2 k hk)
    · subst a
      refine ⟨q, hp0, b, b', fun post hp => ?_⟩
      have iq : vp_in (nI q) 64 := vp_in_nI hp0 (by decide)
      unfold wY_post_44
      refine hU _ (br_t rfl (nm_r (nI_1 bf) ⟨iq, nm_e ⟨iq, nm_e ⟨iq, nm_e ⟨iq, nm_e ⟨bs + 1, ?_⟩⟩⟩⟩⟩))
      rw [nI_clamp (show q < 2 ^ 31 by omega), cs_b0]
      exact cs_pcopy0 (bf := bf) hbs hp0 hc hw2 hW pk_us post hp
  | succ d ih =>
    intro q hqd
    obtain ⟨r, hr, hU⟩ := @cs_used now bf bs CN BU op FR TO GA TL DU W WT NY KY KO KM KT NU CI LE SP BY LA HA CA WA QC QF QL QT BX BH BB q hw hq
    rcases hr with ⟨a, _⟩ | ⟨a, b, b'⟩
    · subst a
      obtain ⟨q', g1, g2, g3, g4⟩ := ih (q + 1) (by omega)
      refine ⟨q', g1, g2, g3, fun post hp => ?_⟩
      unfold wY_post_44
      exact hU _ (br_f cs_10 (nm_r (nI_1 q) (g4 post hp)))
    · subst a
      have hq64 : q < 64 := by omega
      refine ⟨q, hq64, b, b', fun post hp => ?_⟩
      have iq : vp_in (nI q) 64 := vp_in_nI hq64 (by decide)
      unfold wY_post_44
      refine hU _ (br_t rfl (nm_r (nI_1 bf) ⟨iq, nm_e ⟨iq, nm_e ⟨iq, nm_e ⟨iq, nm_e ⟨bs + 1, ?_⟩⟩⟩⟩⟩))
      rw [nI_clamp (show q < 2 ^ 31 by omega), cs_b0]
      exact cs_pcopy0 (bf := bf) hbs hq64 hc hw2 hW pk_us post hp
theorem i_vc_post {k : Nat} {u : SX} {v : SY} (I : i_Rel k u v) (hk : k + 5 ≤ 2560) (v1 : Int32) : wpX_post (fun r u' => wpY_post (fun r' v' => r' = r ∧ i_Rel (k + 5) u' v') v v1) u v1 := by
  have I' := i_up I
  obtain ⟨now, bf, bs, CN, FB, FZ, FC, op, FR, TO, GA, TL, DU, W, WF, NX, HD, KX, KF, KS, LA, TA, WA, QC, QX, BX, IF, BU, WT, NY, KY, KO, KM, KT, NU, CI, LE, SP, BY, HA, CA, QF, QL, QT, BH, BB, rfl, rfl, h1, h2, h3, h4, h5, h6, h7, h8, h9, h10, h11⟩ := I
  unfold wpX_post wpY_post
  dsimp only
  rcases cs_circ v1 with ⟨hX, hY⟩ | ⟨c, hc, rfl, hX, hY⟩
  · exact hX _ (br_t rfl (hY _ _ (br_f cs_10 ⟨rfl, I'⟩)))
  have hi : vp_in (nI c) 8 := vp_in_nI hc (by decide)
  have ec : (nI c).toNatClampNeg = c := nI_clamp (by omega)
  rw [ec]
  refine hX _ (br_f cs_10 ⟨hi, ?_⟩)
  by_cases qo : op c = 0
  · exact br_t qo (hY _ _ (br_t rfl ⟨hi, br_t qo ⟨rfl, I'⟩⟩))
  refine br_f qo ?_
  by_cases qb : bs = 0
  · subst qb
    exact br_t rfl (hY _ _ (br_t rfl ⟨hi, br_f qo (br_t rfl ⟨rfl, I'⟩)⟩))
  have qb' : ¬ nI bs = 0 := nI_ne0 (by omega) (by omega)
  refine br_f qb' ⟨hi, ?_⟩
  obtain ⟨w, hw2, hW⟩ := cs_W_val h5 hc
  by_cases qw : w = 2
  · subst qw
    exact br_t hW (hY _ _ (br_t rfl ⟨hi, br_f qo (br_f qb' ⟨hi, br_t hW ⟨rfl, I'⟩⟩)⟩))
  have qw' : ¬ W c = 2 := fun z => qw (cs_nI_inj (b := 2) (by omega) (by decide) (hW.symm.trans z))
  have hbf : vp_in (nI bf) 256 := vp_in_nI (by omega) (by decide)
  have ebf : (nI bf).toNatClampNeg = bf := nI_clamp (by omega)
  obtain ⟨hbf1, hN⟩ := cs_N_post h3 hk hc qo (by omega)
  have er : nI bf + 1 - (nI bf + 1) / 256 * 256 = nI (bf + 1) := by
    have e := pk_rem (a := bf + 1) (d := 256) (by omega) (by decide) (by decide)
    rw [Nat.mod_eq_of_lt (by omega), ← nI_1] at e
    rw [← nI_1]
    exact e
  have hwv : ∀ c, c < 8 → ∃ n, n ≤ 2 ∧ W c = nI n := fun c hc => cs_W_val h5 hc
  have hqv : ∀ s, s < 4 → ∃ n, n ≤ 6 ∧ QC s = nI n := fun s hs => by
    obtain ⟨n, a, b, _⟩ := h7 s hs
    exact ⟨n, a, b⟩
  obtain ⟨p0, hp0, hf⟩ := cs_pig 40 (fun i => if i < 16 then (WT i).toNatClampNeg else (QF (i - 16)).toNatClampNeg)
  have hf1 : ∀ k, k < 16 → ¬ cs_Uw W WT p0 k := by
    intro j hj ⟨n, _, _, _, e⟩
    have := hf j (by omega)
    rw [if_pos hj, e, nI_clamp (by omega)] at this
    exact this rfl
  have hf2 : ∀ k, k < 24 → ¬ cs_Uq QC QF p0 k := by
    intro j hj ⟨n, _, _, _, e⟩
    have := hf (16 + j) (by omega)
    rw [if_neg (by omega), Nat.add_sub_cancel_left, e, nI_clamp (by omega)] at this
    exact this rfl
  obtain ⟨q, hq64, hU1, hU2, hP⟩ := @cs_Ypost now bf bs CN BU op FR TO GA TL DU W WT NY KY KO KM KT NU CI LE SP BY LA HA CA WA QC QF QL QT BX BH BB c w p0 h2 hc (by omega) hW hwv hqv (by omega) hf1 hf2 p0 0 (by omega)
  refine br_f qw' ?_
  rw [ebf, er, hW, cs_m2, nI_add, nI_clamp (show 2 * c + w < 2 ^ 31 by omega), nI_1 w]
  refine ⟨hbf, nm_e ⟨hbf, nm_e ⟨hi, vp_in_nI (by omega) (by decide), nm_e ⟨hi, hi, nm_e ⟨cs_z256, nm_e ?_⟩⟩⟩⟩⟩
  unfold wpX_cellsOf
  dsimp only
  rw [ebf, pk_us, cs_cells h2]
  refine ⟨hbf, cs_z8, hY _ _ (br_t rfl ⟨hi, br_f qo (br_f qb' ⟨hi, br_f ?_ ⟨p0 + 1, hP _ ⟨rfl, ?_⟩⟩⟩)⟩)⟩
  · rw [hW] at qw'
    exact qw'
  have hold : ∀ f p d z, cs_FP bf FC FZ FB NU CI LE BY f p d z → p ≠ q → cs_FP (bf + 1) (upd FC bf (nI c)) (upd FZ bf (nI bs)) FB (upd NU q (nI (bf + 1))) (upd CI q (nI c)) (upd LE q (nI bs)) (cs_cp BY (27 * q) BU bs) f p d z :=
    fun f p d z h hn => cs_FP_old h2 h hn
  refine cs_mk (bf := bf + 1) (bs := 0) hbf1 (by omega) hN (fun i hi => absurd hi (by omega)) ?_ h6 ?_ ?_ h9 h10 h11
  · refine cs_W_post h5 hc qo (by omega) hW (bs := bs) (by omega) (by omega) (fun f p d z h => ⟨h.2.1, h.1⟩) (fun d j n hd hn e hj z => ?_) hold (cs_FP_new h2 (by omega) hc hq64 h4)
    refine hU1 (2 * d + j) (by omega) ⟨n, hn, ?_, by omega, z⟩
    rw [show (2 * d + j) / 2 = d by omega]
    exact e
  · refine cs_Q_post h7 (fun s i n hs hn e hi z => ?_) hold
    refine hU2 (6 * s + i) (by omega) ⟨n, hn, ?_, by omega, z⟩
    rw [show (6 * s + i) / 6 = s by omega]
    exact e
  · exact cs_I_fb h8 (by omega) (fun f hf => pk_un (by omega)) (fun f hf => pk_un (by omega)) (fun _ _ => rfl)
