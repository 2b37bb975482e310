/-! THE CLASS: what comes of a round, by its kinds -/
def dbI (g dr : Nat) (acc : Option (Int × Nat)) : Int × Int32 := match acc with
  | none => (if dr = 0 then -100 else 100, -1)
  | some q => (sgI g q.1, nI q.2)
theorem dbI_ch (g dr : Nat) (acc : Option (Int × Nat)) : (dbI g dr acc).2 = chI acc := by cases acc <;> rfl
theorem rb_val1 {L : LandT} {P : ProT} {g : Nat} {ot : Bool} {m o : Nat} (hm : 1 ≤ m) : cmF L P g ot m o = vlO (rbF L P g ot m o) := by
  obtain ⟨k, rfl⟩ : ∃ k, m = k + 1 := ⟨m - 1, by omega⟩
  exact rb_val k o
theorem prB_ofT {g dr : Nat} {q : Int × Nat} {c : Nat} {v : Int} (hdr : dr ≤ 1) : ofT (grB g dr) (some q) c v = if prB dr (sgI g v) (sgI g q.1) = true then some (v, c) else some q := by
  rw [prB_of hdr]
  unfold ofT
  dsimp only
  cases grB g dr <;> simp
theorem cuX.rr {S T : Nat → Nat → Prop} {M B : Mem} {a b n o m N x : Nat} (h : cuX M a b n o m N x) (hF : Frr S T M B) (hS : ∀ c k, a ≤ c → c ≤ a + 4 → ¬ S c k) : cuX B a b n o m N x := by
  obtain ⟨dp, ⟨c1, c2, c3, c4, c5⟩, h2, h3⟩ := h
  have i : ∀ c k, a ≤ c → c ≤ a + 4 → mI B c k = mI M c k := fun c k h1 h2 => hF.i (hS c k h1 h2)
  exact ⟨dp, ⟨(i _ _ (by omega) (by omega)).trans c1, fun j hj => (i _ _ (by omega) (by omega)).trans (c2 j hj), (i _ _ (by omega) (by omega)).trans c3, fun j hj => (i _ _ (by omega) (by omega)).trans (c4 j hj), fun s hs => (i _ _ (by omega) (by omega)).trans (c5 s hs)⟩, h2, h3⟩
section ROUNDS
variable {X : Cx} {la pr g : Nat} {ot : Bool} {L : LandT} {P : ProT} {M : Mem} {Q : Option AV → Mem → Prop}
theorem mn_self {m : Nat} {B C : Mem} {v : Int32} (h : MX B la pr L P g ot) (hm : m ≤ 4) (e : C = sI B 38 9 v) : Frr (mnS m) (mnT m) B C ∧ MX C la pr L P g ot ∧ mI C 38 9 = v := by
  rw [e]
  exact ⟨ms_mn ch_ms, h.ms hm ch_ms, mI_sI_eq⟩
theorem kp_drawKeep {m o d : Nat} (hA : AH X la pr L P g ot (m - 1)) (hd : 3 * m + 7 ≤ d) (h : MX M la pr L P g ot) (hm : 1 ≤ m ∧ m ≤ L.2.1) (ho : o < 2 ^ L.1) (hk : P.2.2 ((L.2.1 - m) % P.1) = 0)
    (hq : ∀ B, Frr (mnS m) (mnT m) M B → MX B la pr L P g ot → mI B 38 9 = chI (rbF L P g ot m o) → Q (some (vI (zI (sgI g (cmF L P g ot m o))))) B) : Cl X d 0 0 m_X5_drawForKeeping [vR 38, vI (nI o), vI (nI m)] M Q := by
  have hdr := drF_le h.2.2.2.2.1 ot ((L.2.1 - m) % P.1)
  have hL := h.2.1.2.2
  have hs4 := hL.2.1
  have h49 : 4 ^ L.1 ≤ 4 ^ 9 := Nat.pow_le_pow_right (by decide) hL.1.2
  have h49e : (4 : Nat) ^ 9 = 262144 := rfl
  have hlen := lsL_len (L := L) (o := o) (m := m) hL.1.2 (by omega)
  have er : rbF L P g ot m o = fbF (grB g (drF P ot ((L.2.1 - m) % P.1))) (fun c => cmV L P g (grB g (drF P ot ((L.2.1 - m) % P.1))) ((L.2.1 - m) % P.1) (cmF L P g ot (m - 1)) o m c) (lsL L o m) none := by
    unfold rbF; rw [if_neg (by omega), if_neg (by omega)]
  rw [rb_val1 hm.1] at hq
  rw [er] at hq
  generalize hdre : drF P ot ((L.2.1 - m) % P.1) = dr at hdr hq
  have ev : ∀ c, cmV L P g (grB g dr) ((L.2.1 - m) % P.1) (cmF L P g ot (m - 1)) o m c = vlO (fkF L g (cmF L P g ot (m - 1)) c o m (!grB g dr)) := fun c => by
    unfold cmV; rw [if_pos hk, kv_fk]
  have key : ∀ xs i (B : Mem) (N : Nat) (acc : Option (Int × Nat)), i + xs.length ≤ 8000 → (∀ q, acc = some q → (-20 ≤ q.1 ∧ q.1 ≤ 20) ∧ q.2 < 2 ^ 31) → (∀ x, x ∈ xs → x < 2 ^ 31 ∧ icN L x o m) → Frr (mnS m) (mnT m) M B → MX B la pr L P g ot → cuW B (43 + 6 * (m - 1)) (la + 8) (lwB L) 2 L.1 o m N xs → fbF (grB g dr) (fun c => cmV L P g (grB g dr) ((L.2.1 - m) % P.1) (cmF L P g ot (m - 1)) o m c) xs acc = fbF (grB g dr) (fun c => cmV L P g (grB g dr) ((L.2.1 - m) % P.1) (cmF L P g ot (m - 1)) o m c) (lsL L o m) none → WA X d 0 0 m_X5_drawForKeeping 26 [some (vR 38), some (vI (nI o)), some (vI (nI m)), some (vI (nI dr)), some (vI (zI (dbI g dr acc).1)), some (vI (dbI g dr acc).2), some (vR (43 + 6 * (m - 1))), some (vI (nI i)), none] [] B Q := by
    intro xs
    induction xs with
    | nil =>
      intro i B N acc hi hacc hxs hF hX hW he
      have hi : i + 0 ≤ 8000 := hi
      have he : acc = _ := he
      refine b_X5_drawForKeeping_26 hX.1.1 (by omega) ⟨fun w => absurd (by rw [na_le (by decide) (by omega)] at w; omega) (id : False → False), fun _ => ⟨hW.2.1.1, kp_next (by omega) hW (fun hx C hFC hBC => ⟨_, rfl, hFC.ext, fun _ => ?_, fun w => absurd rfl w⟩) (fun y ys hy => by cases hy)⟩⟩
      have hFC2 := cu_ms (T := mnT m) ⟨hm.1, by omega⟩ hFC
      have hXC := hX.ms (by omega) hFC2
      refine b_X5_drawForKeeping_85 hXC.1.1 (fun M1 e1 => ?_)
      obtain ⟨s1, s2, s3⟩ := mn_self (m := m) hXC (by omega) e1
      have h9 := hq M1 ((hF.trans (ms_mn hFC2)).trans s1) s2 (by rw [s3, ← he, dbI_ch])
      rw [← he] at h9
      cases acc with
      | none => exact ⟨fun w => absurd rfl w, fun _ => by
          have e0 : zI (sgI g (vlO none)) = nI 0 := by rw [show vlO none = 0 from rfl, sgI_0]; rfl
          rw [e0] at h9; exact h9⟩
      | some q => exact ⟨fun _ => h9, fun w => absurd w (na_m1 (hacc q rfl).2)⟩
    | cons x xs ih =>
      intro i B N acc hi hacc hxs hF hX hW he
      simp only [List.length_cons] at hi
      obtain ⟨x31, xic⟩ := hxs x (by simp)
      have db : -200 ≤ (dbI g dr acc).1 ∧ (dbI g dr acc).1 ≤ 200 := by
        cases acc with
        | none => show -200 ≤ (if dr = 0 then (-100 : Int) else 100) ∧ (if dr = 0 then (-100 : Int) else 100) ≤ 200; split <;> omega
        | some q =>
          have := sgI_b g (hacc q rfl).1
          show -200 ≤ sgI g q.1 ∧ sgI g q.1 ≤ 200
          omega
      refine b_X5_drawForKeeping_26 hX.1.1 (by omega) ⟨fun w => absurd (by rw [na_le (by decide) (by omega)] at w; omega) (id : False → False), fun _ => ⟨hW.2.1.1, kp_next (by omega) hW (fun hx => by cases hx) (fun y ys hy C hFC hWC hXC hpC => ⟨_, rfl, hFC.ext, fun w => absurd w (by decide), fun _ => ?_⟩)⟩⟩
      cases hy
      have hFC2 := cu_ms (T := mnT m) ⟨hm.1, by omega⟩ hFC
      have hMC := hX.ms (by omega) hFC2
      refine kp_keepOne (c := x) hA (by omega) hMC hm ho (hMC.1.2.2.2.1 (m - 1) (by omega)).2.1.k0 (by omega) hpC db ?_ (fun D r n hFD hXD hch hrb hor => ⟨_, rfl, mn_ext hMC hFD, ?_⟩)
      · rw [hdre]
        cases acc with
        | none =>
          show prB dr (if 1 - dr = 0 then -100 else 100) (if dr = 0 then -100 else 100) = true
          rcases (show dr = 0 ∨ dr = 1 by omega) with rfl | rfl <;> rfl
        | some q =>
          have := sgI_b g (hacc q rfl).1
          show prB dr (if 1 - dr = 0 then -100 else 100) (sgI g q.1) = true
          unfold prB
          rcases (show dr = 0 ∨ dr = 1 by omega) with rfl | rfl <;> simp <;> omega
      rw [hdre] at hor
      have hrs := sgI_b g hrb
      refine kp_prefers (by omega) (by omega) hdr ⟨_, rfl, Ext.refl _, ?_⟩
      rw [bI_0, nI_add]
      have hWD := cu_low hMC (show m - 1 < m ∧ m ≤ 4 by omega) (by have := h.2.2.2.2.2.1; omega) hWC hFD
      have hFD2 := (hF.trans (ms_mn hFC2)).trans (mn_mono (Nat.sub_le m 1) hFD)
      have hxs' : ∀ z, z ∈ xs → z < 2 ^ 31 ∧ icN L z o m := fun z hz => hxs z (by simp [hz])
      have vlb : ∀ q : Int × Nat, fkF L g (cmF L P g ot (m - 1)) x o m (!grB g dr) = some q → vlO (fkF L g (cmF L P g ot (m - 1)) x o m (!grB g dr)) = q.1 := fun q hq2 => by rw [hq2]; rfl
      have hexact : ∀ w : prB dr (sgI g r) (dbI g dr acc).1 = true, vlO (fkF L g (cmF L P g ot (m - 1)) x o m (!grB g dr)) = r := fun w => by
        rcases hor with z | ⟨z, -⟩
        · exact vlb _ z
        · rw [z] at w; cases w
      have estep : fbF (grB g dr) (fun c => cmV L P g (grB g dr) ((L.2.1 - m) % P.1) (cmF L P g ot (m - 1)) o m c) (x :: xs) acc = fbF (grB g dr) (fun c => cmV L P g (grB g dr) ((L.2.1 - m) % P.1) (cmF L P g ot (m - 1)) o m c) xs (ofT (grB g dr) acc x (vlO (fkF L g (cmF L P g ot (m - 1)) x o m (!grB g dr)))) := by
        rw [← ev]; rfl
      rw [estep] at he
      refine ⟨fun w => ?_, fun w => ?_⟩
      · have hv : prB dr (sgI g (vlO (fkF L g (cmF L P g ot (m - 1)) x o m (!grB g dr)))) (dbI g dr acc).1 = false := by
          rcases hor with z | ⟨-, z⟩
          · rw [vlb _ z]; exact w
          · exact z
        cases acc with
        | none =>
          have w : prB dr (sgI g r) (if dr = 0 then -100 else 100) = false := w
          unfold prB at w
          rcases (show dr = 0 ∨ dr = 1 by omega) with rfl | rfl <;> simp at w <;> omega
        | some q =>
          have hv : prB dr (sgI g (vlO (fkF L g (cmF L P g ot (m - 1)) x o m (!grB g dr)))) (sgI g q.1) = false := hv
          rw [prB_ofT hdr, if_neg (by rw [hv]; decide)] at he
          exact ih (i + 1) D N (some q) (by omega) hacc hxs' hFD2 hXD hWD he
      · have w := eq_true_of_ne_false w
        have hr := hexact w
        rw [hr] at he
        have eo : ofT (grB g dr) acc x r = some (r, x) := by
          cases acc with
          | none => rfl
          | some q =>
            have w : prB dr (sgI g r) (sgI g q.1) = true := w
            rw [prB_ofT hdr, if_pos w]
        rw [eo] at he
        refine kp_number0 hWD.1 hWD.2.1 (by decide) (by omega) (hXC.rr hFD (fun c k h1 h2 w => by unfold mnS at w; omega)) ⟨_, rfl, Ext.refl _, ?_⟩
        exact ih (i + 1) D N (some (r, x)) (by omega) (fun q hq2 => by cases hq2; exact ⟨hrb, x31⟩) hxs' hFD2 hXD hWD he
  refine e_X5_drawForKeeping (b_X5_drawForKeeping_0 h.1.1 (by omega) (kp_drawer h hm ⟨_, rfl, Ext.refl _, ?_⟩))
  rw [hdre]
  refine kp_worstFor hdr ⟨_, rfl, Ext.refl _, kp_cutsOf h (by omega) hm ho (fun B N hFB hWB => ⟨_, rfl, hFB.ext (mnT_ok h), ?_⟩)⟩
  exact key (lsL L o m) 0 B N none (by omega) (fun q hq2 => by cases hq2) (fun x hx => by
    obtain ⟨x1, x2⟩ := lsL_ok (by omega) hx
    exact ⟨by omega, x2⟩) (ms_mn hFB) (h.ms (by omega) hFB) hWB rfl
end ROUNDS
