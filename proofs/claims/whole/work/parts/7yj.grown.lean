/-! grown -/
/-- a tree's nodes follow one another -/
def EnX (G : Gm) : Prop := ∃ en : Int → Int, (∀ n, 0 ≤ n → n < nN G → (kd G n ≠ 0 → en n = n + 1) ∧ (kd G n = 0 → c1 G n = n + 1 ∧ (c2 G n = -1 → en n = en (c1 G n)) ∧ (c2 G n ≠ -1 → c2 G n = en (c1 G n) ∧ en n = en (c2 G n)))) ∧ ∀ t, 0 ≤ t → t < nT G → en (ft G t) = ft G (t + 1)
def cntB (G : Gm) (lo hi : Int) : Nat := sI (fun n => if kd G n = 0 then 1 else 0) lo (hi - 1)
def sB' (G : Gm) : Dv → Nat
  | .zero => 0
  | .var _ => 0
  | .neg d => sB' G d
  | .intMul t d => cntB G (ft G t) (ft G (t + 1)) + sB' G d
  | .natMul _ d => sB' G d
  | .add x y => sB' G x + sB' G y
  | .sub x d => sB' G x + sB' G d
def sumT (G : Gm) : St → Nat
  | [] => 0
  | x :: r => sumT G r + cntB G (ft G x.1) (ft G (x.1 + 1))
section
variable {G : Gm} {en : Int → Int} {st : St}
theorem EnX_P (X : (∀ n, 0 ≤ n → n < nN G → (kd G n ≠ 0 → en n = n + 1) ∧ (kd G n = 0 → c1 G n = n + 1 ∧ (c2 G n = -1 → en n = en (c1 G n)) ∧ (c2 G n ≠ -1 → c2 G n = en (c1 G n) ∧ en n = en (c2 G n)))) ∧ ∀ t, 0 ≤ t → t < nT G → en (ft G t) = ft G (t + 1)) : EnP G en := by
  refine ⟨fun n n0 n1 => ⟨fun h => ?_, fun h => ⟨?_, fun h2 => ?_, fun h2 => ?_⟩⟩, fun t t0 t1 => ?_⟩
  · have := (X.1 n n0 n1).1 h; omega
  · have := ((X.1 n n0 n1).2 h).1; omega
  · have := ((X.1 n n0 n1).2 h).2.1 h2; omega
  · have := ((X.1 n n0 n1).2 h).2.2 h2; omega
  · have := X.2 t t0 t1; omega
theorem cntB_1 {n e : Int} (h : n < e) : cntB G n e = (if kd G n = 0 then 1 else 0) + cntB G (n + 1) e := by
  unfold cntB
  rw [sI_app (a := n) (b := n) (c := e - 1) (by omega) (by omega), sI_1 (Int.le_refl n), sI_none (by omega), Nat.zero_add]
theorem cntB_app {a b c : Int} (h1 : a ≤ b) (h2 : b ≤ c) : cntB G a c = cntB G a b + cntB G b c := by
  unfold cntB
  rw [sI_app (a := a) (b := b - 1) (c := c - 1) (by omega) (by omega), show b - 1 + 1 = b by omega]
theorem uB_eq (W : WF G) (X : (∀ n, 0 ≤ n → n < nN G → (kd G n ≠ 0 → en n = n + 1) ∧ (kd G n = 0 → c1 G n = n + 1 ∧ (c2 G n = -1 → en n = en (c1 G n)) ∧ (c2 G n ≠ -1 → c2 G n = en (c1 G n) ∧ en n = en (c2 G n)))) ∧ ∀ t, 0 ≤ t → t < nT G → en (ft G t) = ft G (t + 1)) : ∀ (d : Dv) (s half node : Int) (F : Nat), Sh G d half node → Gu G d → 0 ≤ node → node < nN G →
    (half ≠ 2 → uB G st d s node F = cntB G node (en node) + sB' G d + (if sp G node = 1 then F else 0)) ∧ (half = 2 → (∃ t o, d = .intMul t o ∧ sp G (ft G t) = 1) → uB G st d s node F = sB' G d + F)
  | .zero, s, half, node, F, H, gu, n0, n1 => by
    refine ⟨fun _ => ?_, fun z => absurd z (by have := H.1; omega)⟩
    have hk := H.2
    have e := (X.1 node n0 n1).1 (by omega)
    rw [e, cntB_1 (show node < node + 1 by omega), if_neg (show ¬ kd G node = 0 by omega), show cntB G (node + 1) (node + 1) = 0 by unfold cntB; exact sI_none (by omega)]
    show (if kd G node = 1 then 0 else if kd G node = 3 then F else 0) = 0 + 0 + 0 + _
    have sw := wf_sp W n0 n1
    by_cases k3 : kd G node = 3
    · rw [if_neg (by omega), if_pos k3, if_pos (sw.2.1 k3)]; omega
    · have := sw.2.2.1 k3 (by omega)
      rw [if_neg (show ¬ sp G node = 1 by omega)]
      split
      · rfl
      · rfl
  | .var _, s, half, node, F, H, gu, n0, n1 => False.elim H
  | .neg d, s, half, node, F, H, gu, n0, n1 => by
    obtain ⟨rfl, k0, H'⟩ := H
    exact ⟨fun _ => (uB_eq W X d s 0 node F H' gu n0 n1).1 (by decide), fun z => absurd z (by decide)⟩
  | .intMul t d, s, half, node, F, H, gu, n0, n1 => by
    obtain ⟨⟨t0, t1⟩, h4, H'⟩ := H
    have r := root_in W t0 t1
    have ih := (uB_eq W X d (sPut st s (off G node)) 1 (ft G t) F H' gu r.1 r.2.1).1 (by decide)
    rw [X.2 t t0 t1] at ih
    refine ⟨fun hz => ?_, fun hz hg => ?_⟩
    · have h4' := h4 hz
      rw [if_neg (by omega)] at ih
      have e := (X.1 node n0 n1).1 (by omega)
      have sw := (wf_sp W n0 n1).2.2.1 (by omega) (by omega)
      rw [e, cntB_1 (show node < node + 1 by omega), if_neg (show ¬ kd G node = 0 by omega), show cntB G (node + 1) (node + 1) = 0 by unfold cntB; exact sI_none (by omega), if_neg (show ¬ sp G node = 1 by omega)]
      show uB G st d (sPut st s (off G node)) (ft G t) F = 0 + 0 + (cntB G (ft G t) (ft G (t + 1)) + sB' G d) + 0
      omega
    · obtain ⟨t', o', e, hs⟩ := hg
      injection e with e1 e2
      subst e1 e2
      rw [if_pos hs] at ih
      show uB G st d (sPut st s (off G node)) (ft G t) F = cntB G (ft G t) (ft G (t + 1)) + sB' G d + F
      exact ih
  | .natMul m d, s, half, node, F, H, gu, n0, n1 => by
    obtain ⟨rfl, k0, c2', H'⟩ := H
    have c := (ch_in W n0 n1 k0).1
    have ss := (wf_sp W n0 n1).2.2.2 k0
    rw [if_pos c2'] at ss
    have e := (X.1 node n0 n1).2 k0
    have e1 := e.2.1 c2'
    have ih := (uB_eq W X d s 1 (c1 G node) F H' gu c.2.1 c.2.2.1).1 (by decide)
    have g1 := en_gt W (EnX_P X) (nN G - c1 G node).toNat (c1 G node) c.2.1 c.2.2.1 (by omega)
    rw [show sp G (c1 G node) = sp G node by omega, ← e1] at ih
    refine ⟨fun _ => ?_, fun z => absurd z (by decide)⟩
    rw [cntB_1 (show node < en node by omega), if_pos k0, ← e.1]
    show uB G st d s (c1 G node) F + 1 = 1 + cntB G (c1 G node) (en node) + sB' G d + _
    omega
  | .add x y, s, half, node, F, H, gu, n0, n1 => by
    obtain ⟨rfl, k0, c2', Hx, Hy⟩ := H
    have c := (ch_in W n0 n1 k0).1
    have c' := (ch_in W n0 n1 k0).2 c2'
    have ss := (wf_sp W n0 n1).2.2.2 k0
    rw [if_neg c2'] at ss
    have sn := (wf_sp W n0 n1).1
    have s1 := (wf_sp W c.2.1 c.2.2.1).1
    have s2 := (wf_sp W c'.2.1 c'.2.2.1).1
    have e := (X.1 node n0 n1).2 k0
    have e1 := e.2.2 c2'
    have ih1 := (uB_eq W X x s 1 (c1 G node) F Hx gu.1 c.2.1 c.2.2.1).1 (by decide)
    have ih2 := (uB_eq W X y s 1 (c2 G node) F Hy gu.2 c'.2.1 c'.2.2.1).1 (by decide)
    have g1 := en_gt W (EnX_P X) (nN G - c1 G node).toNat (c1 G node) c.2.1 c.2.2.1 (by omega)
    have g2 := en_gt W (EnX_P X) (nN G - c2 G node).toNat (c2 G node) c'.2.1 c'.2.2.1 (by omega)
    refine ⟨fun _ => ?_, fun z => absurd z (by decide)⟩
    rw [← e1.1] at ih1
    rw [← e1.2] at ih2
    rw [cntB_1 (show node < en node by omega), if_pos k0, ← e.1, cntB_app (a := c1 G node) (b := c2 G node) (c := en node) (by omega) (by omega)]
    have ef : (if sp G (c1 G node) = 1 then F else 0) + (if sp G (c2 G node) = 1 then F else 0) = (if sp G node = 1 then F else 0) := by
      rcases s1 with a | a <;> rcases s2 with b | b
      · rw [a, b, show sp G node = 0 by omega]; simp
      · rw [a, b, show sp G node = 1 by omega]; simp
      · rw [a, b, show sp G node = 1 by omega]; simp
      · omega
    show uB G st x s (c1 G node) F + uB G st y s (c2 G node) F + 1 = 1 + (cntB G (c1 G node) (c2 G node) + cntB G (c2 G node) (en node)) + (sB' G x + sB' G y) + _
    omega
  | .sub x d, s, half, node, F, H, gu, n0, n1 => by
    obtain ⟨rfl, k0, Hx, Hd⟩ := H
    have ih2 := (uB_eq W X d s 0 node F Hd gu.2.2 n0 n1).1 (by decide)
    have ih1 := (uB_eq W X x s 2 node (uB G st d s node F) Hx gu.2.1 n0 n1).2 rfl gu.1
    refine ⟨fun _ => ?_, fun z => absurd z (by decide)⟩
    show uB G st x s node (uB G st d s node F) = cntB G node (en node) + (sB' G x + sB' G d) + _
    omega
theorem sumT_lay : ∀ (d : Dv) (s node : Int) (st : St), sumT G (lay G d s node st) = sumT G st + sB' G d
  | .zero, s, node, st => rfl
  | .var _, s, node, st => rfl
  | .neg d, s, node, st => sumT_lay d s node st
  | .intMul t d, s, node, st => by
    show sumT G (lay G d st.length (ft G t) ((t, s, off G node) :: st)) = sumT G st + (cntB G (ft G t) (ft G (t + 1)) + sB' G d)
    rw [sumT_lay d]
    show sumT G st + cntB G (ft G t) (ft G (t + 1)) + sB' G d = _
    omega
  | .natMul _ d, s, node, st => sumT_lay d s _ st
  | .add x y, s, node, st => by
    show sumT G (lay G y s _ (lay G x s _ st)) = sumT G st + (sB' G x + sB' G y)
    rw [sumT_lay y, sumT_lay x]
    omega
  | .sub x d, s, node, st => by
    show sumT G (lay G d s _ (lay G x s _ st)) = sumT G st + (sB' G x + sB' G d)
    rw [sumT_lay d, sumT_lay x]
    omega
theorem sumT_sI : ∀ st : St, sumT G st = sI (fun s => cntB G (ft G (sEnt st s).1) (ft G ((sEnt st s).1 + 1))) 0 ((st.length : Int) - 1)
  | [] => by
    rw [sI_none (by show ((0 : Nat) : Int) - 1 < 0; decide)]
    rfl
  | x :: r => by
    have l : (((x :: r).length : Nat) : Int) - 1 = (r.length : Int) := by show ((r.length + 1 : Nat) : Int) - 1 = _; omega
    rw [l, sI_1 (f := fun s => cntB G (ft G (sEnt (x :: r) s).1) (ft G ((sEnt (x :: r) s).1 + 1))) (show (0 : Int) ≤ r.length by omega)]
    have e1 : sEnt (x :: r) (r.length : Int) = x := by
      show (if (r.length : Int) = r.length then x else _) = x
      rw [if_pos rfl]
    have e2 : sI (fun s => cntB G (ft G (sEnt (x :: r) s).1) (ft G ((sEnt (x :: r) s).1 + 1))) 0 ((r.length : Int) - 1) = sI (fun s => cntB G (ft G (sEnt r s).1) (ft G ((sEnt r s).1 + 1))) 0 ((r.length : Int) - 1) := by
      apply sI_congr
      intro s s0 s1
      have : sEnt (x :: r) s = sEnt r s := by
        show (if s = (r.length : Int) then x else sEnt r s) = _
        rw [if_neg (by omega)]
      simp only [this]
    rw [e2, ← sumT_sI r]
    simp only [e1]
    rfl
/-- all branches of all steps -/
theorem way_B (I : GIn G) (Xg : EnX G) {t : Int} {d : Dv} (t0 : 0 ≤ t) (t1 : t < nT G) (hs : sp G (ft G t) = 0) (sh : Sh G d 1 (ft G t)) (gu : Gu G d) : uB G (stW G t d) d 0 (ft G t) 0 = sI (fun s => cntB G (ft G (sEnt (stW G t d) s).1) (ft G ((sEnt (stW G t d) s).1 + 1))) 0 (((stW G t d).length : Int) - 1) := by
  obtain ⟨en, X⟩ := Xg
  have W := I.1
  have hr := root_in W t0 t1
  have a := (uB_eq (st := stW G t d) W X d 0 1 (ft G t) 0 sh gu hr.1 hr.2.1).1 (by decide)
  rw [X.2 t t0 t1, if_neg (by omega)] at a
  rw [← sumT_sI, a]
  unfold stW
  rw [sumT_lay]
  show _ = 0 + cntB G (ft G t) (ft G (t + 1)) + sB' G d
  omega
end
