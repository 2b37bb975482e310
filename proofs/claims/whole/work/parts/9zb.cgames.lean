/-! THE CLASS: games are played, and weighed -/
theorem mm_pos {L : LandT} {G : GamT} {x : Int32} (h : mmB L G x = true) : 0 ≤ x.toInt := by
  have ic : ∀ o m, icB L x o m = true → 0 ≤ x.toInt := fun o m q => by
    refine Classical.byContradiction (fun w => ?_)
    unfold icB at q
    have : inN x (4 ^ L.1) = none := by unfold inN; rw [if_neg (by omega)]
    rw [this] at q; cases q
  have inn : ∀ n : Nat, (inN x n).isSome = true → 0 ≤ x.toInt := fun n q => by
    refine Classical.byContradiction (fun w => ?_)
    have : inN x n = none := by unfold inN; rw [if_neg (by omega)]
    rw [this] at q; cases q
  unfold mmB at h
  split at h
  · exact ic _ _ h
  · split at h
    · exact inn _ h
    · split at h
      · refine Classical.byContradiction (fun w => ?_)
        unfold ihB at h
        have : inN x (8 ^ L.1) = none := by unfold inN; rw [if_neg (by omega)]
        rw [this] at h; cases h
      · split at h
        · rw [Bool.and_eq_true] at h; exact ic _ _ h.1
        · split at h
          · rw [Bool.and_eq_true] at h; exact ic _ _ h.1
          · split at h
            · rw [Bool.and_eq_true] at h; exact ic _ _ h.1
            · split at h
              · exact inn _ h
              · cases h
theorem lg_snoc {L : LandT} {P : ProT} {mv : List Nat} {x : Nat} (h : lgM L P mv) (hm : mmB L (plG L P mv) (nI x) = true) (hx : x < 2 ^ 31) : lgM L P (mv ++ [x]) := fun k y hk => by
  rcases Nat.lt_trichotomy k mv.length with w | w | w
  · rw [List.getElem?_append_left w] at hk
    rw [List.take_append_of_le_length (by omega)]
    exact h k y hk
  · subst w
    rw [List.getElem?_append_right (Nat.le_refl _), Nat.sub_self] at hk
    cases hk
    rw [List.take_append_of_le_length (Nat.le_refl _), List.take_length]
    exact ⟨hm, hx⟩
  · rw [List.getElem?_eq_none (by simp; omega)] at hk; cases hk
section API
variable {X : Cx} {d : Nat} {M : Mem} {s : StT} {T : AdT} {Q : Option AV → Mem → Prop}
theorem gOn_upd {g : Nat} {mv : List Nat} (l : Nat) : gOn (updG s g ((sGs s g).1, (sGs s g).2.1, mv)) l = gOn s l := by
  unfold gOn
  have e : ∀ i, (sGs (updG s g ((sGs s g).1, (sGs s g).2.1, mv)) i).1 = (sGs s i).1 := fun i => by
    show (if i = g then ((sGs s g).1, (sGs s g).2.1, mv) else sGs s i).1 = _
    by_cases z : i = g
    · rw [if_pos z, z]
    · rw [if_neg z]
  have : (fun g' => decide ((sGs (updG s g ((sGs s g).1, (sGs s g).2.1, mv)) g').1 = l)) = (fun g' => decide ((sGs s g').1 = l)) := by funext i; rw [e]
  rw [this]; rfl
/-- one game has changed -/
theorem CI.gx {g : Nat} {mv : List Nat} {B : Mem} (h : CI M s T) (hg : g < sNg s) (hF : Fal (ixS T (300 + g)) (ixT T (300 + g)) M B) (hE : Ext M B) (hn : nx B = nx M) (hA : gaX B (aGa T g) (aLa T (sGs s g).1) (aPa T (sGs s g).2.1) (sLs s (sGs s g).1) (plG (sLs s (sGs s g).1) (sPs s (sGs s g).2.1) mv) mv) (hlg : lgM (sLs s (sGs s g).1) (sPs s (sGs s g).2.1) mv) : CI B (updG s g ((sGs s g).1, (sGs s g).2.1, mv)) T ∧ OFr M B := by
  have h6 := h.1.2.2.1.1
  obtain ⟨⟨o1, o2, o3, o4, o5, o6, o7, o8, o9⟩, o10⟩ := h.old (x := 300 + g) (by omega) hF hE
  have hS := h.1.2
  have eG : ∀ i, i ≠ g → sGs (updG s g ((sGs s g).1, (sGs s g).2.1, mv)) i = sGs s i := fun i z => if_neg z
  have eg : sGs (updG s g ((sGs s g).1, (sGs s g).2.1, mv)) g = ((sGs s g).1, (sGs s g).2.1, mv) := if_pos rfl
  obtain ⟨s1, s2, s3⟩ := hS.2.2.2.2 g hg
  refine ⟨⟨⟨o1, hS.1, hS.2.1, hS.2.2.1, hS.2.2.2.1, fun i hi => ?_⟩, o2, o3, fun l hl => ?_, o5, fun i hi => ?_, o7, o8, o9, by rw [hn]; exact h.2.2.2.2.2.2.2.2.2⟩, o10⟩
  · by_cases z : i = g
    · subst z
      rw [eg]; exact ⟨s1, s2, hlg⟩
    · rw [eG i z]; exact hS.2.2.2.2 i hi
  · rw [gOn_upd]; exact o4 l hl (by have hl : l < sNl s := hl; omega)
  · by_cases z : i = g
    · subst z
      unfold gmO
      rw [eg]; exact hA
    · have := o6 i hi (by omega)
      unfold gmO at this ⊢
      rw [eG i z]; exact this
theorem dj_gl {g l : Nat} (h : CI M s T) (hg : g < sNg s) (hl : l < sNl s) : aGa T g + 4 < aLa T l ∨ aLa T l + 8 < aGa T g := by
  have h6 := h.1.2.2.1.1
  obtain ⟨o1, -⟩ := h.2.2.2.2.2.2.2.2.2.2.2.2.1 g hg
  refine Classical.byContradiction (fun w => ?_)
  by_cases z : aGa T g ≤ aLa T l
  · have a := h.ow hl (Nat.le_refl _) (by omega)
    have b := o1 (aLa T l - aGa T g) (by omega)
    rw [show aGa T g + (aLa T l - aGa T g) = aLa T l by omega] at b
    omega
  · have a := h.ow hl (show aLa T l ≤ aGa T g by omega) (by omega)
    have b := o1 0 (by omega)
    rw [Nat.add_zero] at b
    omega
theorem dj_gp {g p : Nat} (h : CI M s T) (hg : g < sNg s) (hp : p < sNp s) : aPa T p + 2 < aGa T g ∨ aGa T g + 4 < aPa T p := by
  have h8 := h.1.2.2.2.1.1
  obtain ⟨o1, -⟩ := h.2.2.2.2.2.2.2.2.2.2.2.2.1 g hg
  obtain ⟨p1, -⟩ := h.2.2.2.2.2.2.2.2.2.2.2.1 p hp
  refine Classical.byContradiction (fun w => ?_)
  by_cases z : aGa T g ≤ aPa T p
  · have a := p1 0 (by omega)
    have b := o1 (aPa T p - aGa T g) (by omega)
    rw [show aGa T g + (aPa T p - aGa T g) = aPa T p by omega] at b
    rw [Nat.add_zero] at a
    omega
  · have a := p1 (aGa T g - aPa T p) (by omega)
    have b := o1 0 (by omega)
    rw [show aPa T p + (aGa T g - aPa T p) = aGa T g by omega] at a
    rw [Nat.add_zero] at b
    omega
theorem upd_id {g : Nat} : updG s g ((sGs s g).1, (sGs s g).2.1, (sGs s g).2.2) = s := by
  unfold updG
  have : (fun i => if i = g then ((sGs s g).1, (sGs s g).2.1, (sGs s g).2.2) else sGs s i) = sGs s := by
    funext i
    by_cases z : i = g
    · rw [if_pos z, z]
    · rw [if_neg z]
  rw [this]; rfl
theorem gOn_of {g : Nat} (hg : g < sNg s) : gOn s (sGs s g).1 = true := by
  unfold gOn
  rw [List.any_eq_true]
  exact ⟨g, List.mem_range.mpr hg, decide_eq_true rfl⟩
theorem gaX.ak {a la pr : Nat} {L : LandT} {G : GamT} {mv : List Nat} {B : Mem} (hS : scX M) (hA : gaX M a la pr L G mv) (ha : 37 < a) (hF : Frr (akS a) slT M B) : gaX B a la pr L G mv := by
  obtain ⟨hC, hM, hK, ⟨p1, p2, p3, p4, p5, p6⟩⟩ := hA
  have i : ∀ b k, a ≤ b → b < a + 4 → mI B b k = mI M b k := fun b k hb h2 => hF.i (ak_no (by omega) (by omega))
  exact ⟨hC.rr hF (slT_ok hS) ⟨nslT ha, nslT ha⟩, hM.rr hF (ak_no ha (by omega)) (fun k => ak_no (by omega) (by omega)), hK.rr hF ⟨ak_no ha (by omega), ak_no ha (by omega), ak_no ha (by omega)⟩ (fun k => ak_no (by omega) (by omega)), (i _ _ (by omega) (by omega)).trans p1, fun w => (i _ _ (by omega) (by omega)).trans (p2 w), fun w s hs => (i _ _ (by omega) (by omega)).trans (p3 w s hs), fun w s hs => (i _ _ (by omega) (by omega)).trans (p4 w s hs), fun w => (i _ _ (by omega) (by omega)).trans (p5 w), fun w => (i _ _ (by omega) (by omega)).trans (p6 w)⟩
theorem gcell {g b : Nat} (h : CI M s T) (hg : g < sNg s) (h1 : aGa T g ≤ b) (h2 : b ≤ aGa T g + 4) : aOw T b = 300 + g := by
  rw [← (h.2.2.2.2.2.2.2.2.2.2.2.2.1 g hg).1 (b - aGa T g) (by omega)]
  congr 1; omega
theorem sl_sf {b k : Nat} (q : slS b k) : sfS b k := Or.inr (Or.inr (Or.inl q))
/-- a game's land is ready -/
theorem CI.gR {g : Nat} (h : CI M s T) (hg : g < sNg s) : laR M (aLa T (sGs s g).1) (sLs s (sGs s g).1) := by
  obtain ⟨⟨a, b⟩, hL, -⟩ := h.gm hg
  have hld := h.2.2.2.1 _ a
  exact hld.ok hL (hld.2.2.2.1.2 (gOn_of hg))
theorem kp10_move {g x : Int32} (hd : 12 ≤ d) (h : CI M s T) (hq : ∀ B, CI B (moveS s g x) T → OFr M B → Q (some (vI (aMove s g x))) B) : Cl X d 0 0 m_X10_move [vR 1, vI g, vI x] M Q := by
  unfold aMove moveS at hq
  refine e_X10_move (b_X10_move_0 h.1.1 (by omega) (kp_gameAt h (fun e => ⟨_, rfl, Ext.refl _, fun _ => ?_, fun z => absurd rfl z⟩) (fun k e hk => ⟨_, rfl, Ext.refl _, fun z => absurd z (by have := h.lg hk; omega), fun _ => ?_⟩)))
  · rw [e] at hq; exact hq M h OFr.refl
  · rw [e] at hq
    dsimp only at hq
    have hA := h.2.2.2.2.2.1 k hk
    obtain ⟨⟨a, b⟩, hL, hP, hlg, hK, hmu⟩ := h.gm hk
    have lg := h.lg hk
    have ll := h.lo a
    have lp := h.lp b
    have hs4 := hL.2.1
    have hR := h.gR hk
    have dl := dj_gl h hk a
    have dp := dj_gp h hk b
    refine ⟨hA.1.1, kp_permits (by omega) (by omega) (by omega) dl hR h.sc hA hK (fun B hFB => ⟨_, rfl, hFB.ext (slT_ok h.sc), ?_⟩)⟩
    have hAB := gaX.ak h.sc hA (by omega) hFB
    have nB : nx B = nx M := by unfold nx; rw [hFB.2.2]
    have sub1 : ∀ b k', akS (aGa T k) b k' → ixS T (300 + k) b k' := fun b k' q => by
      rcases q with q | q
      · exact Or.inl (sl_sf q)
      · exact Or.inr (gcell h hk (by omega) (by omega))
    obtain ⟨c1, c2⟩ := h.gx hk ((hFB.mono sub1 (fun b k' q => Or.inl (Or.inl q))).al) (hFB.ext (slT_ok h.sc)) nB hAB hlg
    rw [upd_id] at c1
    rw [bI_0]
    refine ⟨fun w => ?_, fun w => ?_⟩
    · have w := eq_true_of_ne_false w
      have hx0 := mm_pos w
      have hxe : x = nI x.toInt.toNat := by
        rw [← Int32.toInt_inj, nI_toInt (by have := Int32.toInt_lt x; omega)]; omega
      have hx31 : x.toInt.toNat < 2 ^ 31 := by have := Int32.toInt_lt x; omega
      rw [w, if_pos rfl] at hq
      rw [hxe] at w
      have hK8 : gPh (gmO s k) < 8 := by
        refine Classical.byContradiction (fun z => ?_)
        unfold mmB at w
        rw [if_neg (by omega), if_neg (by omega), if_neg (by omega), if_neg (by omega), if_neg (by omega), if_neg (by omega), if_neg (by omega)] at w
        cases w
      have hml : (sGs s k).2.2.length < 8 := by
        have hGC := (pl_ok hL hP _ _ rfl hlg).2.1
        have := (mvG_ok hL hP hK hGC hK8 hx31 w).2.2
        omega
      rw [hxe]
      refine kp_play (by omega) (by omega) (by omega) dl (c1.gR hk) c1.sc (c1.2.2.2.2.1 _ b) hP (by omega) hAB hK hK8 hx31 w hml (fun C hFC hAC => ⟨rfl, hFC.ext (slT_ok c1.sc), ?_⟩)
      have nC : nx C = nx B := by unfold nx; rw [hFC.2.2]
      have hlg2 := lg_snoc hlg w hx31
      have eg : mvG (sLs s (sGs s k).1) (sPs s (sGs s k).2.1) (gmO s k) x.toInt.toNat = plG (sLs s (sGs s k).1) (sPs s (sGs s k).2.1) ((sGs s k).2.2 ++ [x.toInt.toNat]) := by
        unfold gmO plG; rw [List.foldl_append]; rfl
      rw [eg] at hAC
      have sub2 : ∀ b k', gxS (aGa T k) (sGs s k).2.2.length b k' → ixS T (300 + k) b k' := fun b k' q => by
        rcases q with q | q
        · exact Or.inl (sl_sf q)
        · exact Or.inr (gcell h hk q.1 q.2.1)
      obtain ⟨f1, f2⟩ := c1.gx hk ((hFC.mono sub2 (fun b k' q => Or.inl (Or.inl q))).al) (hFC.ext (slT_ok c1.sc)) nC hAC hlg2
      exact hq C f1 (c2.trans f2)
    · rw [w, if_neg (by decide)] at hq
      exact hq B c1 c2
theorem kp10_undo {g : Int32} (hd : 12 ≤ d) (h : CI M s T) (hq : ∀ B, CI B (undoS s g) T → OFr M B → Q (some (vI (aUndo s g))) B) : Cl X d 0 0 m_X10_undo [vR 1, vI g] M Q := by
  unfold aUndo undoS at hq
  refine e_X10_undo (b_X10_undo_0 h.1.1 (by omega) (kp_gameAt h (fun e => ⟨_, rfl, Ext.refl _, fun _ => ?_, fun z => absurd rfl z⟩) (fun k e hk => ⟨_, rfl, Ext.refl _, fun z => absurd z (by have := h.lg hk; omega), fun _ => ?_⟩)))
  · rw [e] at hq; exact hq M h OFr.refl
  · rw [e] at hq
    dsimp only at hq
    have hA := h.2.2.2.2.2.1 k hk
    obtain ⟨⟨a, b⟩, hL, hP, hlg, hK, hmu⟩ := h.gm hk
    have lg := h.lg hk
    have ll := h.lo a
    have lp := h.lp b
    have hs4 := hL.2.1
    have hR := h.gR hk
    have dl := dj_gl h hk a
    have dp := dj_gp h hk b
    rw [hA.2.1.1, na_eq (by omega) (by decide)]
    refine ⟨hA.1.1, fun w => ?_, fun w => ?_⟩
    · rw [if_neg w, decide_eq_true w] at hq
      have hne : (sGs s k).2.2 ≠ [] := fun z => w (by rw [z]; rfl)
      refine kp_takeBack (by omega) (by omega) (by omega) dl hR h.sc (h.2.2.2.2.1 _ b) hP (by omega) hA hlg hne (fun B hFB hAB => ⟨rfl, hFB.ext (stT_ok h.sc hA.1.1), ?_⟩)
      have nB : nx B = nx M := by unfold nx; rw [hFB.2.2]
      have hlg2 : lgM (sLs s (sGs s k).1) (sPs s (sGs s k).2.1) (sGs s k).2.2.dropLast := by
        rw [List.dropLast_eq_take]; exact lg_take hlg
      have sub1 : ∀ b k', (slS b k' ∨ (aGa T k ≤ b ∧ b ≤ aGa T k + 4)) → ixS T (300 + k) b k' := fun b k' q => by
        rcases q with q | q
        · exact Or.inl (sl_sf q)
        · exact Or.inr (gcell h hk q.1 q.2)
      have sub2 : ∀ b k', stT (aGa T k) b k' → ixT T (300 + k) b k' := fun b k' q => by
        rcases q with q | q
        · exact Or.inl (Or.inl q)
        · exact Or.inr (gcell h hk (by omega) (by omega))
      obtain ⟨f1, f2⟩ := h.gx hk ((hFB.mono sub1 sub2).al) (hFB.ext (stT_ok h.sc hA.1.1)) nB hAB hlg2
      exact hq B f1 f2
    · rw [if_pos w, decide_eq_false (fun z => z w)] at hq
      exact hq M h OFr.refl
end API
