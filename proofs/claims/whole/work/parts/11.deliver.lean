/-! what is kept, over one cell -/
theorem cs_K_keep {op KX KY KF KO KS KM KT KF' KO' : Nat → Int32} {c f t : Nat} (h6 : cs_K op KX KY KF KO KS KM KT) (ho : op c ≠ 0) (hc : c < 8) (hF : ∀ j, j ≠ c → KF' j = KF j) (hO : ∀ j, j ≠ c → KO' j = KO j)
    (hfo : KO' c = KF' c + 1) : cs_K op (upd KX c (KX c + 1)) (upd KY c (KY c + 1)) KF' KO' (if KF' c = nI f ∧ t = 0 then KS else upd KS c 1) (upd KM c (if KM c = 0 ∧ KO' c = nI (f + 1) then 0 else 1)) (upd KT c (if KT c = 0 ∧ t = 0 then 0 else 1)) := by
  obtain ⟨g1, g2, g3⟩ := (h6 c hc).2 ho
  have hiff : KO' c = nI (f + 1) ↔ KF' c = nI f := by
    rw [hfo, ← nI_1]
    exact Int32.add_left_inj 1
  refine cs_K_at h6 ho (fun j e => pk_un e) (fun j e => pk_un e) hF hO ?_ (fun j e => pk_un e) (fun j e => pk_un e) ?_ (fun _ => hfo) ?_
  · intro j e
    split
    · rfl
    · exact pk_un e
  · rw [pk_us, pk_us, g1]
  · rw [pk_us, pk_us]
    by_cases q : KF' c = nI f ∧ t = 0
    · rw [if_pos q, g3]
      have q2 := hiff.mpr q.1
      constructor
      · intro ⟨a, b⟩
        rw [if_pos ⟨a, q2⟩, if_pos ⟨b, q.2⟩]
        exact ⟨rfl, rfl⟩
      · intro ⟨a, b⟩
        constructor
        · by_cases z : KM c = 0
          · exact z
          · rw [if_neg (fun y => z y.1)] at a
            exact absurd a cs_10
        · by_cases z : KT c = 0
          · exact z
          · rw [if_neg (fun y => z y.1)] at b
            exact absurd b cs_10
    · rw [if_neg q, pk_us]
      constructor
      · intro a
        exact absurd a cs_10
      · intro ⟨a, b⟩
        exfalso
        by_cases z : t = 0
        · rw [if_neg (fun y => q ⟨hiff.mp y.2, z⟩)] at a
          exact cs_10 a
        · rw [if_neg (fun y => z y.2)] at b
          exact cs_10 b
theorem cs_K_forget {op KX KY KF KO KS KM KT : Nat → Int32} {c : Nat} (h : cs_K op KX KY KF KO KS KM KT) (ho : op c ≠ 0) : cs_K op (upd KX c 0) (upd KY c 0) KF KO (upd KS c 0) (upd KM c 0) (upd KT c 0) :=
  cs_K_at h ho (fun j e => pk_un e) (fun j e => pk_un e) (fun j e => rfl) (fun j e => rfl) (fun j e => pk_un e) (fun j e => pk_un e) (fun j e => pk_un e)
    (by rw [pk_us, pk_us]) (fun z => absurd pk_us z) (by rw [pk_us, pk_us, pk_us]; exact ⟨fun _ => ⟨rfl, rfl⟩, fun _ => rfl⟩)
/-! X keeps a cell -/
theorem cs_Xk27 {now : Int32} {bf bs : Nat} {CN FB FZ FC op FR TO GA TL DU W WF NX HD KX KF KS LA TA WA QC QX BX IF : Nat → Int32} {f l t c : Nat} (hf : f < 256) (hl : l ≤ 1) (ht : t ≤ 1) (hc : c < 8) {post : SX → Prop} (hp : post (now, (nI bf), (nI bs), CN, FB, FZ, FC, op, FR, TO, GA, TL, DU, W, WF, NX, HD, upd KX c (KX c + 1), KF, (if KF c = nI f ∧ t = 0 then KS else upd KS c 1), LA, TA, WA, QC, QX, BX, IF)) :
    wX_keep_27 post (nI (4 * f + 2 * l + t)) (nI f) (nI c) now (nI bf) (nI bs) CN FB FZ FC op FR TO GA TL DU W WF NX HD KX KF KS LA TA WA QC QX BX IF := by
  have ic : vp_in (nI c) 8 := vp_in_nI hc (by decide)
  have ec : (nI c).toNatClampNeg = c := nI_clamp (by omega)
  unfold wX_keep_27 wX_keep_43 wX_keep_50
  rw [ec, cs_and1 f hf l (by omega) t (by omega), cs_b1]
  by_cases q : KF c = nI f
  · by_cases z : t = 0
    · subst z
      rw [if_pos ⟨q, rfl⟩] at hp
      exact ⟨ic, br_t q (br_t rfl ⟨ic, ic, nm_e hp⟩)⟩
    · rw [if_neg (fun y => z y.2)] at hp
      exact ⟨ic, br_t q (br_f (nI_ne0 (by omega) (by omega)) ⟨ic, nm_e ⟨ic, ic, nm_e hp⟩⟩)⟩
  · rw [if_neg (fun y => q y.1)] at hp
    exact ⟨ic, br_f q ⟨ic, nm_e ⟨ic, ic, nm_e hp⟩⟩⟩
theorem cs_Xkeep {now : Int32} {bf bs : Nat} {CN FB FZ FC op FR TO GA TL DU W WF NX HD KX KF KS LA TA WA QC QX BX IF : Nat → Int32} {KF' : Nat → Int32} {f l t c : Nat} (hf : f < 256) (hl : l ≤ 1) (ht : t ≤ 1) (hc : c < 8) (ef : FC f = nI c) (hF : (KX c = 0 ∧ KF' = upd KF c (nI f)) ∨ (¬ KX c = 0 ∧ KF' = KF)) {post : SX → Prop}
    (hp : post (now, (nI bf), (nI bs), CN, FB, FZ, FC, op, FR, TO, GA, TL, DU, W, WF, NX, HD, upd KX c (KX c + 1), KF', (if KF' c = nI f ∧ t = 0 then KS else upd KS c 1), LA, TA, WA, QC, QX, BX, IF)) :
    wpX_keep post (now, (nI bf), (nI bs), CN, FB, FZ, FC, op, FR, TO, GA, TL, DU, W, WF, NX, HD, KX, KF, KS, LA, TA, WA, QC, QX, BX, IF) (nI (4 * f + 2 * l + t)) := by
  have ic : vp_in (nI c) 8 := vp_in_nI hc (by decide)
  have ec : (nI c).toNatClampNeg = c := nI_clamp (by omega)
  have ifr : vp_in (nI f) 256 := vp_in_nI hf (by decide)
  unfold wpX_keep
  dsimp only
  rw [cs_shr hf hl ht]
  refine nm_e ⟨ifr, ?_⟩
  rw [nI_clamp (show f < 2 ^ 31 by omega), ef]
  refine nm_e ⟨ic, ?_⟩
  rw [ec]
  rcases hF with ⟨q, rfl⟩ | ⟨q, rfl⟩
  · exact br_t q ⟨ic, nm_e (cs_Xk27 hf hl ht hc hp)⟩
  · exact br_f q (cs_Xk27 hf hl ht hc hp)
/-! X ends a frame -/
theorem cs_X35a {now : Int32} {bf bs : Nat} {CN FB FZ FC op FR TO GA TL DU W WF NX HD KX KF KS LA TA WA QC QX BX IF : Nat → Int32} {s f c : Nat} (hc : c < 8) {post : SX → Prop} (hp : post (now, (nI bf), (nI bs), upd CN 5 (CN 5 + 1), FB, FZ, FC, op, FR, TO, GA, TL, DU, W, WF, NX, HD, upd KX c 0, KF, upd KS c 0, LA, TA, WA, QC, QX, BX, IF)) : wX_endFrame_35 post (nI s) (nI f) (nI c) 0 now (nI bf) (nI bs) CN FB FZ FC op FR TO GA TL DU W WF NX HD KX KF KS LA TA WA QC QX BX IF := by
  have ic : vp_in (nI c) 8 := vp_in_nI hc (by decide)
  have ec : (nI c).toNatClampNeg = c := nI_clamp (by omega)
  unfold wX_endFrame_35 wpX_keepNothing
  dsimp only
  rw [ec, cs_b0]
  exact ⟨ic, nm_e ⟨ic, nm_e (br_t rfl (nm_e hp))⟩⟩
theorem cs_X35b {now : Int32} {bf bs : Nat} {CN FB FZ FC op FR TO GA TL DU W WF NX HD KX KF KS LA TA WA QC QX BX IF : Nat → Int32} {s f c : Nat} (hs : s < 4) (hc : c < 8) (eb : BX s = nI 4) {post : SX → Prop} (hp : post (now, (nI bf), (nI bs), upd CN 6 (CN 6 + 1), FB, FZ, FC, op, FR, TO, GA, TL, DU, W, WF, NX, HD, upd KX c 0, KF, upd KS c 0, LA, TA, WA, QC, QX, BX, IF)) : wX_endFrame_35 post (nI s) (nI f) (nI c) 1 now (nI bf) (nI bs) CN FB FZ FC op FR TO GA TL DU W WF NX HD KX KF KS LA TA WA QC QX BX IF := by
  have ic : vp_in (nI c) 8 := vp_in_nI hc (by decide)
  have ec : (nI c).toNatClampNeg = c := nI_clamp (by omega)
  have is4 : vp_in (nI s) 4 := vp_in_nI hs (by decide)
  have es : (nI s).toNatClampNeg = s := nI_clamp (by omega)
  unfold wX_endFrame_35 wpX_keepNothing
  dsimp only
  rw [ec, es, eb, cs_b0]
  exact ⟨ic, nm_e ⟨ic, nm_e (br_f cs_10 ⟨is4, br_t rfl (nm_e hp)⟩)⟩⟩
theorem cs_X35c {now : Int32} {bf bs : Nat} {CN FB FZ FC op FR TO GA TL DU W WF NX HD KX KF KS LA TA WA QC QX BX IF : Nat → Int32} {s f c b : Nat} (hs : s < 4) (hc : c < 8) (hb : b < 4) (eb : BX s = nI b) {post : SX → Prop}
    (hp : post (now, (nI bf), (nI bs), upd CN 4 (CN 4 + 1), FB, FZ, FC, op, FR, TO, GA, TL, DU, W, WF, NX, HD, upd KX c 0, KF, upd KS c 0, LA, TA, WA, QC, QX, upd BX s (nI (b + 1)), upd IF (4 * s + b) (nI f))) : wX_endFrame_35 post (nI s) (nI f) (nI c) 1 now (nI bf) (nI bs) CN FB FZ FC op FR TO GA TL DU W WF NX HD KX KF KS LA TA WA QC QX BX IF := by
  have ic : vp_in (nI c) 8 := vp_in_nI hc (by decide)
  have ec : (nI c).toNatClampNeg = c := nI_clamp (by omega)
  have is4 : vp_in (nI s) 4 := vp_in_nI hs (by decide)
  have es : (nI s).toNatClampNeg = s := nI_clamp (by omega)
  have n4 : ¬ nI b = 4 := fun z => absurd (cs_nI_inj (b := 4) (by omega) (by decide) z) (by omega)
  unfold wX_endFrame_35 wpX_keepNothing
  dsimp only
  rw [ec, es, eb, cs_b0, cs_m4, nI_add, nI_clamp (show 4 * s + b < 2 ^ 31 by omega), nI_1 b]
  exact ⟨ic, nm_e ⟨ic, nm_e (br_f cs_10 ⟨is4, br_f n4 ⟨is4, vp_in_nI (by omega) (by decide), nm_e ⟨is4, is4, nm_e (nm_e hp)⟩⟩⟩)⟩⟩
theorem cs_Xend {now : Int32} {bf bs : Nat} {CN FB FZ FC op FR TO GA TL DU W WF NX HD KX KF KS LA TA WA QC QX BX IF : Nat → Int32} {s f c z : Nat} (hf : f < 256) (hc : c < 8) (hz : z ≤ 27) (ef : FC f = nI c) (ez : FZ f = nI z) {post : SX → Prop}
    (hg : (KS c = 0 ∧ KX c = nI ((z + 12) / 8)) → wX_endFrame_35 post (nI s) (nI f) (nI c) 1 now (nI bf) (nI bs) CN FB FZ FC op FR TO GA TL DU W WF NX HD KX KF KS LA TA WA QC QX BX IF) (hb : ¬ (KS c = 0 ∧ KX c = nI ((z + 12) / 8)) → wX_endFrame_35 post (nI s) (nI f) (nI c) 0 now (nI bf) (nI bs) CN FB FZ FC op FR TO GA TL DU W WF NX HD KX KF KS LA TA WA QC QX BX IF) :
    wpX_endFrame post (now, (nI bf), (nI bs), CN, FB, FZ, FC, op, FR, TO, GA, TL, DU, W, WF, NX, HD, KX, KF, KS, LA, TA, WA, QC, QX, BX, IF) (nI s) (nI f) := by
  have ic : vp_in (nI c) 8 := vp_in_nI hc (by decide)
  have ec : (nI c).toNatClampNeg = c := nI_clamp (by omega)
  have ifr : vp_in (nI f) 256 := vp_in_nI hf (by decide)
  unfold wpX_endFrame wX_endFrame_34
  dsimp only
  rw [nI_clamp (show f < 2 ^ 31 by omega), ef]
  refine ⟨ifr, nm_e ⟨ic, ?_⟩⟩
  rw [ec]
  by_cases q : KS c = 0
  · refine br_t q ⟨ic, cs_Xcells hf hz ez ?_⟩
    by_cases q2 : KX c = nI ((z + 12) / 8)
    · exact br_t q2 (hg ⟨q, q2⟩)
    · exact br_f q2 (hb (fun y => q2 y.2))
  · exact br_f q (hb (fun y => q y.1))
theorem cs_Xdel {now : Int32} {bf bs : Nat} {CN FB FZ FC op FR TO GA TL DU W WF NX HD KX KF KS LA TA WA QC QX BX IF : Nat → Int32} {s n f l t : Nat} (hs : s < 4) (hn : n < 6) (hf : f < 256) (hl : l ≤ 1) (ht : t ≤ 1) (en : QC s = nI (n + 1)) (eq : QX (6 * s) = nI (4 * f + 2 * l + t)) {u' : SX} {post : SX → Prop}
    (hk : ∀ post : SX → Prop, post u' → wpX_keep post (now, (nI bf), (nI bs), CN, FB, FZ, FC, op, FR, TO, GA, TL, DU, W, WF, NX, HD, KX, KF, KS, LA, TA, WA, upd QC s (nI n), cs_mv QX 1 (6 * s) n, BX, IF) (nI (4 * f + 2 * l + t)))
    (h0 : l = 0 → post u') (h1 : l = 1 → wpX_endFrame post u' (nI s) (nI f)) : wpX_deliverTo post (now, (nI bf), (nI bs), CN, FB, FZ, FC, op, FR, TO, GA, TL, DU, W, WF, NX, HD, KX, KF, KS, LA, TA, WA, QC, QX, BX, IF) (nI s) := by
  have is4 : vp_in (nI s) 4 := vp_in_nI hs (by decide)
  have es : (nI s).toNatClampNeg = s := nI_clamp (by omega)
  have em : QC s - 1 = nI n := by rw [en]; exact nI_pred n
  have e0 : ¬ QC s = 0 := by rw [en]; exact nI_ne0 (by omega) (by omega)
  unfold wpX_deliverTo
  dsimp only
  rw [es, em, cs_m6]
  refine ⟨is4, br_f e0 (nm_e ⟨vp_in_nI (by omega) (by decide), ?_⟩)⟩
  rw [nI_clamp (show 6 * s < 2 ^ 31 by omega), eq]
  refine nm_e ⟨is4, is4, nm_e ⟨is4, ?_⟩⟩
  rw [pk_us]
  refine cs_mu0_QX (by omega) ?_
  refine hk _ ?_
  rw [cs_and2 f hf l (by omega) t (by omega), cs_shr hf hl ht]
  rcases (show l = 0 ∨ l = 1 by omega) with e | e
  · subst e
    exact br_t rfl (h0 rfl)
  · subst e
    exact br_f (by decide) (h1 rfl)
/-! Y keeps a frame, ends a frame -/
theorem cs_Ykf {now : Int32} {bf bs : Nat} {CN BU op FR TO GA TL DU W WT NY KY KO KM KT NU CI LE SP BY LA HA CA WA QC QF QL QT BX BH BB : Nat → Int32} {s p a b : Nat} (hs : s < 4) (hp64 : p < 64) (ha : a < 16) (eb : BX s = nI b) : ∀ d i, i + d = 27 → ∀ post : SY → Prop,
    post (now, (nI bs), (nI bf), upd CN 4 (CN 4 + 1), BU, op, FR, TO, GA, TL, DU, W, WT, NY, KY, KO, KM, KT, NU, CI, LE, SP, BY, LA, HA, CA, WA, QC, QF, QL, QT, upd BX s (nI (b + 1)), BH, cs_cp BB (27 * a) (fun i => BY (27 * p + i)) 27) →
    wY_keepFrame_58 post (nI s) (nI p) (nI a) now (nI bs) (nI bf) (d + 1) (nI i) CN BU op FR TO GA TL DU W WT NY KY KO KM KT NU CI LE SP BY LA HA CA WA QC QF QL QT BX BH (cs_cp BB (27 * a) (fun i => BY (27 * p + i)) i) := by
  have is4 : vp_in (nI s) 4 := vp_in_nI hs (by decide)
  have es : (nI s).toNatClampNeg = s := nI_clamp (by omega)
  intro d
  induction d with
  | zero =>
    intro i hi post hp
    have e : i = 27 := by omega
    subst e
    refine br_t (Int32.le_refl _) ?_
    rw [es, eb, nI_1 b]
    exact ⟨is4, is4, nm_e (nm_e hp)⟩
  | succ d ih =>
    intro i hi post hp
    refine br_f (nI_ge (b := 27) (by omega) (by decide)) ?_
    rw [cs_27m, cs_27m, nI_add, nI_add, nI_clamp (show 27 * p + i < 2 ^ 31 by omega), nI_clamp (show 27 * a + i < 2 ^ 31 by omega)]
    exact ⟨vp_in_nI (by omega) (by decide), vp_in_nI (by omega) (by decide), nm_r (cs_cp_s BB (27 * a) (fun i => BY (27 * p + i)) i) (nm_r (nI_1 i) (ih (i + 1) (by omega) post hp))⟩
theorem cs_Ykeep {now : Int32} {bf bs : Nat} {CN BU op FR TO GA TL DU W WT NY KY KO KM KT NU CI LE SP BY LA HA CA WA QC QF QL QT BX BH BB : Nat → Int32} {s p c z b : Nat} (hs : s < 4) (hp64 : p < 64) (hb : b < 4) (eb : BX s = nI b) (ec : CI p = nI c) (ez : LE p = nI z) {post : SY → Prop}
    (hp : post (now, (nI bs), (nI bf), upd CN 4 (CN 4 + 1), BU, op, FR, TO, GA, TL, DU, W, WT, NY, KY, KO, KM, KT, NU, CI, LE, SP, BY, LA, HA, CA, WA, QC, QF, QL, QT, upd BX s (nI (b + 1)), upd BH (4 * s + b) (nI (32 * c + z)), cs_cp BB (27 * (4 * s + b)) (fun i => BY (27 * p + i)) 27)) : wpY_keepFrame post (now, (nI bs), (nI bf), CN, BU, op, FR, TO, GA, TL, DU, W, WT, NY, KY, KO, KM, KT, NU, CI, LE, SP, BY, LA, HA, CA, WA, QC, QF, QL, QT, BX, BH, BB) (nI s) (nI p) := by
  have is4 : vp_in (nI s) 4 := vp_in_nI hs (by decide)
  have es : (nI s).toNatClampNeg = s := nI_clamp (by omega)
  have ip : vp_in (nI p) 64 := vp_in_nI hp64 (by decide)
  have n4 : ¬ nI b = 4 := fun z => absurd (cs_nI_inj (b := 4) (by omega) (by decide) z) (by omega)
  have h := @cs_Ykf now bf bs CN BU op FR TO GA TL DU W WT NY KY KO KM KT NU CI LE SP BY LA HA CA WA QC QF QL QT BX (upd BH (4 * s + b) (nI (32 * c + z))) BB s p (4 * s + b) b hs hp64 (by omega) eb 27 0 (by omega) post hp
  rw [cs_cp_0] at h
  unfold wpY_keepFrame
  dsimp only
  rw [es, eb, nI_clamp (show p < 2 ^ 31 by omega), ec, ez, cs_4m, nI_add, cs_32m, nI_add]
  refine ⟨is4, br_f n4 ⟨is4, nm_e ⟨ip, ip, vp_in_nI (by omega) (by decide), ?_⟩⟩⟩
  rw [nI_clamp (show 4 * s + b < 2 ^ 31 by omega)]
  exact nm_e ⟨28, h⟩
theorem cs_Ymiss {now : Int32} {bf bs : Nat} {CN BU op FR TO GA TL DU W WT NY KY KO KM KT NU CI LE SP BY LA HA CA WA QC QF QL QT BX BH BB : Nat → Int32} {s p : Nat} (hs : s < 4) (eb : BX s = nI 4) {post : SY → Prop} (hp : post (now, (nI bs), (nI bf), upd CN 6 (CN 6 + 1), BU, op, FR, TO, GA, TL, DU, W, WT, NY, KY, KO, KM, KT, NU, CI, LE, SP, BY, LA, HA, CA, WA, QC, QF, QL, QT, BX, BH, BB)) : wpY_keepFrame post (now, (nI bs), (nI bf), CN, BU, op, FR, TO, GA, TL, DU, W, WT, NY, KY, KO, KM, KT, NU, CI, LE, SP, BY, LA, HA, CA, WA, QC, QF, QL, QT, BX, BH, BB) (nI s) (nI p) := by
  have is4 : vp_in (nI s) 4 := vp_in_nI hs (by decide)
  have es : (nI s).toNatClampNeg = s := nI_clamp (by omega)
  unfold wpY_keepFrame
  dsimp only
  rw [es, eb]
  exact ⟨is4, br_t rfl (nm_e hp)⟩
theorem cs_Y269a {now : Int32} {bf bs : Nat} {CN BU op FR TO GA TL DU W WT NY KY KO KM KT NU CI LE SP BY LA HA CA WA QC QF QL QT BX BH BB : Nat → Int32} {s p c : Nat} (hc : c < 8) {post : SY → Prop} (hp : post (now, (nI bs), (nI bf), upd CN 5 (CN 5 + 1), BU, op, FR, TO, GA, TL, DU, W, WT, NY, upd KY c 0, KO, upd KM c 0, upd KT c 0, NU, CI, LE, SP, BY, LA, HA, CA, WA, QC, QF, QL, QT, BX, BH, BB)) : wY_comeToStation_269 post (nI s) (nI p) (nI c) 0 now (nI bs) (nI bf) CN BU op FR TO GA TL DU W WT NY KY KO KM KT NU CI LE SP BY LA HA CA WA QC QF QL QT BX BH BB := by
  have ic : vp_in (nI c) 8 := vp_in_nI hc (by decide)
  have ec : (nI c).toNatClampNeg = c := nI_clamp (by omega)
  unfold wY_comeToStation_269 wpY_forget
  dsimp only
  rw [ec, cs_b0]
  exact ⟨ic, nm_e ⟨ic, nm_e ⟨ic, nm_e (br_t rfl (nm_e hp))⟩⟩⟩
theorem cs_Y269b {now : Int32} {bf bs : Nat} {CN BU op FR TO GA TL DU W WT NY KY KO KM KT NU CI LE SP BY LA HA CA WA QC QF QL QT BX BH BB : Nat → Int32} {s p c : Nat} (hc : c < 8) {post : SY → Prop} (hp : wpY_keepFrame post (now, (nI bs), (nI bf), CN, BU, op, FR, TO, GA, TL, DU, W, WT, NY, upd KY c 0, KO, upd KM c 0, upd KT c 0, NU, CI, LE, SP, BY, LA, HA, CA, WA, QC, QF, QL, QT, BX, BH, BB) (nI s) (nI p)) : wY_comeToStation_269 post (nI s) (nI p) (nI c) 1 now (nI bs) (nI bf) CN BU op FR TO GA TL DU W WT NY KY KO KM KT NU CI LE SP BY LA HA CA WA QC QF QL QT BX BH BB := by
  have ic : vp_in (nI c) 8 := vp_in_nI hc (by decide)
  have ec : (nI c).toNatClampNeg = c := nI_clamp (by omega)
  unfold wY_comeToStation_269 wpY_forget
  dsimp only
  rw [ec, cs_b0]
  exact ⟨ic, nm_e ⟨ic, nm_e ⟨ic, nm_e (br_f cs_10 hp)⟩⟩⟩
theorem cs_Y212 {now : Int32} {bf bs : Nat} {CN BU op FR TO GA TL DU W WT NY KY KO KM KT NU CI LE SP BY LA HA CA WA QC QF QL QT BX BH BB : Nat → Int32} {s p c z l : Nat} {zt : Int32} (hp64 : p < 64) (hz : z ≤ 27) (hc : c < 8) (hl : l ≤ 1) (ez : LE p = nI z) (hzt : vp_nar .boolean zt = zt) {post : SY → Prop}
    (h0 : l = 0 → post (now, (nI bs), (nI bf), CN, BU, op, FR, TO, GA, TL, DU, W, WT, NY, upd KY c (KY c + 1), KO, KM, upd KT c zt, NU, CI, LE, SP, BY, LA, HA, CA, WA, QC, QF, QL, QT, BX, BH, BB))
    (hg : l = 1 → (KM c = 0 ∧ zt = 0 ∧ KY c + 1 = nI ((z + 12) / 8)) → wY_comeToStation_269 post (nI s) (nI p) (nI c) 1 now (nI bs) (nI bf) CN BU op FR TO GA TL DU W WT NY (upd KY c (KY c + 1)) KO KM (upd KT c zt) NU CI LE SP BY LA HA CA WA QC QF QL QT BX BH BB)
    (hb : l = 1 → ¬ (KM c = 0 ∧ zt = 0 ∧ KY c + 1 = nI ((z + 12) / 8)) → wY_comeToStation_269 post (nI s) (nI p) (nI c) 0 now (nI bs) (nI bf) CN BU op FR TO GA TL DU W WT NY (upd KY c (KY c + 1)) KO KM (upd KT c zt) NU CI LE SP BY LA HA CA WA QC QF QL QT BX BH BB) :
    wY_comeToStation_212 post (nI s) (nI p) (nI l) (nI c) zt (nI c) now (nI bs) (nI bf) CN BU op FR TO GA TL DU W WT NY KY KO KM KT NU CI LE SP BY LA HA CA WA QC QF QL QT BX BH BB := by
  have ic : vp_in (nI c) 8 := vp_in_nI hc (by decide)
  have ec : (nI c).toNatClampNeg = c := nI_clamp (by omega)
  unfold wY_comeToStation_212 wY_comeToStation_268
  rw [ec, hzt]
  refine ⟨ic, nm_e ⟨ic, ic, nm_e ?_⟩⟩
  rcases (show l = 0 ∨ l = 1 by omega) with e | e
  · subst e
    exact br_t rfl (h0 rfl)
  · subst e
    rw [pk_us, pk_us]
    refine br_f cs_10 ⟨ic, ?_⟩
    by_cases q : KM c = 0
    · refine br_t q ⟨ic, ?_⟩
      by_cases q2 : zt = 0
      · refine br_t q2 ⟨ic, cs_Ycells hp64 hz ez ?_⟩
        by_cases q3 : KY c + 1 = nI ((z + 12) / 8)
        · exact br_t q3 (hg rfl ⟨q, q2, q3⟩)
        · exact br_f q3 (hb rfl (fun y => q3 y.2.2))
      · exact br_f q2 (hb rfl (fun y => q2 y.2.1))
    · exact br_f q (hb rfl (fun y => q y.1))
theorem cs_Y148 {now : Int32} {bf bs : Nat} {CN BU op FR TO GA TL DU W WT NY KY KO KM KT NU CI LE SP BY LA HA CA WA QC QF QL QT BX BH BB : Nat → Int32} {s p c l t : Nat} (hp64 : p < 64) (hc : c < 8) (ht : t ≤ 1) {post : SY → Prop}
    (hp : wY_comeToStation_212 post (nI s) (nI p) (nI l) (nI c) (if KT c = 0 ∧ t = 0 then 0 else 1) (nI c) now (nI bs) (nI bf) CN BU op FR TO GA TL DU W WT NY KY KO (upd KM c (if KM c = 0 ∧ KO c = NU p then 0 else 1)) KT NU CI LE SP BY LA HA CA WA QC QF QL QT BX BH BB) :
    wY_comeToStation_148 post (nI s) (nI p) (nI l) (nI t) (nI c) now (nI bs) (nI bf) CN BU op FR TO GA TL DU W WT NY KY KO KM KT NU CI LE SP BY LA HA CA WA QC QF QL QT BX BH BB := by
  have ic : vp_in (nI c) 8 := vp_in_nI hc (by decide)
  have ec : (nI c).toNatClampNeg = c := nI_clamp (by omega)
  have ip : vp_in (nI p) 64 := vp_in_nI hp64 (by decide)
  have h185 : wY_comeToStation_185 post (nI s) (nI p) (nI l) (nI t) (nI c) (if KM c = 0 ∧ KO c = NU p then 0 else 1) (nI c) now (nI bs) (nI bf) CN BU op FR TO GA TL DU W WT NY KY KO KM KT NU CI LE SP BY LA HA CA WA QC QF QL QT BX BH BB := by
    have hb : vp_nar .boolean (if KM c = 0 ∧ KO c = NU p then 0 else 1) = (if KM c = 0 ∧ KO c = NU p then 0 else 1) := by
      split
      · exact cs_b0
      · exact cs_b1
    unfold wY_comeToStation_185 wY_comeToStation_207
    rw [ec, hb]
    refine ⟨ic, nm_e ⟨ic, ?_⟩⟩
    by_cases q : KT c = 0
    · refine br_t q ?_
      by_cases q2 : t = 0
      · rw [if_pos ⟨q, q2⟩] at hp
        subst q2
        exact br_t rfl hp
      · rw [if_neg (fun y => q2 y.2)] at hp
        exact br_f (nI_ne0 (by omega) (by omega)) hp
    · rw [if_neg (fun y => q y.1)] at hp
      exact br_f q hp
  unfold wY_comeToStation_148 wY_comeToStation_180
  rw [ec, nI_clamp (show p < 2 ^ 31 by omega)]
  refine ⟨ic, ?_⟩
  by_cases q : KM c = 0
  · refine br_t q ⟨ic, ip, ?_⟩
    by_cases q2 : KO c = NU p
    · rw [if_pos ⟨q, q2⟩] at h185
      exact br_t q2 h185
    · rw [if_neg (fun y => q2 y.2)] at h185
      exact br_f q2 h185
  · rw [if_neg (fun y => q y.1)] at h185
    exact br_f q h185
theorem cs_Y47 {now : Int32} {bf bs : Nat} {CN BU op FR TO GA TL DU W WT NY KY KO KM KT NU CI LE SP BY LA HA CA WA QC QF QL QT BX BH BB : Nat → Int32} {KO' : Nat → Int32} {s p c l t n : Nat} (hs : s < 4) (hn : n < 6) (hp64 : p < 64) (hc : c < 8) (en : QC s = nI n) (ec : CI p = nI c) (hF : (KY c = 0 ∧ KO' = upd KO c (NU p)) ∨ (¬ KY c = 0 ∧ KO' = KO))
    (hL : ∀ i, i ≤ n → vp_nar .boolean (QL (6 * s + i)) = QL (6 * s + i)) (hT : ∀ i, i ≤ n → vp_nar .boolean (QT (6 * s + i)) = QT (6 * s + i)) : ∀ d i, i + d = n → ∀ post : SY → Prop,
    wY_comeToStation_148 post (nI s) (nI p) (nI l) (nI t) (nI c) now (nI bs) (nI bf) CN BU op FR TO GA TL DU W WT NY KY KO' KM KT NU CI LE SP BY LA HA CA WA QC (cs_mv QF 1 (6 * s) n) (cs_mv QL 1 (6 * s) n) (cs_mv QT 1 (6 * s) n) BX BH BB →
    wY_comeToStation_47 post (nI s) (nI p) (nI l) (nI t) now (nI bs) (nI bf) (d + 1) (nI (6 * s + i)) CN BU op FR TO GA TL DU W WT NY KY KO KM KT NU CI LE SP BY LA HA CA WA QC (cs_mv QF 1 (6 * s) i) (cs_mv QL 1 (6 * s) i) (cs_mv QT 1 (6 * s) i) BX BH BB := by
  have is4 : vp_in (nI s) 4 := vp_in_nI hs (by decide)
  have es : (nI s).toNatClampNeg = s := nI_clamp (by omega)
  have ic : vp_in (nI c) 8 := vp_in_nI hc (by decide)
  have ip : vp_in (nI p) 64 := vp_in_nI hp64 (by decide)
  intro d
  induction d with
  | zero =>
    intro i hi post hp
    have e : i = n := by omega
    subst e
    refine ⟨is4, ?_⟩
    rw [es, en, cs_6m, nI_add, nI_clamp (show p < 2 ^ 31 by omega), ec]
    refine br_t (Int32.le_refl _) ⟨ip, nm_e ⟨ic, ?_⟩⟩
    rw [nI_clamp (show c < 2 ^ 31 by omega)]
    rcases hF with ⟨q, rfl⟩ | ⟨q, rfl⟩
    · exact br_t q ⟨ip, ic, nm_e hp⟩
    · exact br_f q hp
  | succ d ih =>
    intro i hi post hp
    refine ⟨is4, ?_⟩
    have ho : 6 * s + i + 1 < 6 * s ∨ 6 * s + i ≤ 6 * s + i + 1 := by omega
    rw [es, en, cs_6m, nI_add, nI_1 (6 * s + i), nI_clamp (show 6 * s + i < 2 ^ 31 by omega), nI_clamp (show 6 * s + i + 1 < 2 ^ 31 by omega), cs_mv_out ho, cs_mv_out ho, cs_mv_out ho,
      show vp_nar .boolean (QL (6 * s + i + 1)) = QL (6 * s + i + 1) from hL (i + 1) (by omega), show vp_nar .boolean (QT (6 * s + i + 1)) = QT (6 * s + i + 1) from hT (i + 1) (by omega)]
    have i1 : vp_in (nI (6 * s + i + 1)) 24 := vp_in_nI (by omega) (by decide)
    have i0 : vp_in (nI (6 * s + i)) 24 := vp_in_nI (by omega) (by decide)
    exact br_f (nI_ge (by omega) (by omega)) ⟨i1, i0, nm_r (cs_mv_s QF 1 (6 * s) i) ⟨i1, i0, nm_r (cs_mv_s QL 1 (6 * s) i) ⟨i1, i0, nm_r (cs_mv_s QT 1 (6 * s) i) (nm_e (ih (i + 1) (by omega) post hp))⟩⟩⟩
theorem cs_Ydel {now : Int32} {bf bs : Nat} {CN BU op FR TO GA TL DU W WT NY KY KO KM KT NU CI LE SP BY LA HA CA WA QC QF QL QT BX BH BB : Nat → Int32} {KO' : Nat → Int32} {s p c l t n : Nat} (hs : s < 4) (hn : n < 6) (hp64 : p < 64) (hc : c < 8) (en : QC s = nI (n + 1)) (ec : CI p = nI c) (hF : (KY c = 0 ∧ KO' = upd KO c (NU p)) ∨ (¬ KY c = 0 ∧ KO' = KO))
    (hL : ∀ i, i ≤ n → vp_nar .boolean (QL (6 * s + i)) = QL (6 * s + i)) (hT : ∀ i, i ≤ n → vp_nar .boolean (QT (6 * s + i)) = QT (6 * s + i))
    (e1 : QF (6 * s) = nI p) (e2 : QL (6 * s) = nI l) (e3 : QT (6 * s) = nI t) {post : SY → Prop}
    (hp : wY_comeToStation_148 post (nI s) (nI p) (nI l) (nI t) (nI c) now (nI bs) (nI bf) CN BU op FR TO GA TL DU W WT NY KY KO' KM KT NU CI LE SP BY LA HA CA WA (upd QC s (nI n)) (cs_mv QF 1 (6 * s) n) (cs_mv QL 1 (6 * s) n) (cs_mv QT 1 (6 * s) n) BX BH BB) :
    wpY_comeToStation post (now, (nI bs), (nI bf), CN, BU, op, FR, TO, GA, TL, DU, W, WT, NY, KY, KO, KM, KT, NU, CI, LE, SP, BY, LA, HA, CA, WA, QC, QF, QL, QT, BX, BH, BB) (nI s) := by
  have is4 : vp_in (nI s) 4 := vp_in_nI hs (by decide)
  have es : (nI s).toNatClampNeg = s := nI_clamp (by omega)
  have em : QC s - 1 = nI n := by rw [en]; exact nI_pred n
  have i6 : vp_in (nI (6 * s)) 24 := vp_in_nI (by omega) (by decide)
  have h := @cs_Y47 now bf bs CN BU op FR TO GA TL DU W WT NY KY KO KM KT NU CI LE SP BY LA HA CA WA (upd QC s (nI n)) QF QL QT BX BH BB KO' s p c l t n hs hn hp64 hc pk_us ec hF hL hT n 0 (by omega) post hp
  rw [cs_mv_0, cs_mv_0, cs_mv_0] at h
  unfold wpY_comeToStation
  dsimp only
  rw [es, em, cs_6m, nI_clamp (show 6 * s < 2 ^ 31 by omega)]
  exact ⟨i6, nm_r e1 ⟨i6, nm_r e2 ⟨i6, nm_r e3 ⟨is4, is4, nm_e (nm_e ⟨n + 1, h⟩)⟩⟩⟩⟩
