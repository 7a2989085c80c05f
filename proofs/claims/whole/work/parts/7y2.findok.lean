/-! a way by its number: which it is; the class finds it -/
def WayAt (G : Gm) (ou : Int → Bool) (row : Int → Int) (n : Int) (k : Nat) (t : Int) (d : Dv) : Prop := nT G ≠ 0 ∧ ∃ k', Pick (fH G ou row (lb G 0) 0 n) 0 (nT G - 1) k t k' ∧ Nth G ou row d 1 (ft G t) 0 n (-1) (-1) k'
def stW (G : Gm) (t : Int) (d : Dv) : St := lay G d 0 (ft G t) [(t, -1, -1)]
section
variable {h h' g : Hp} {P o8 n : Int} {G : Gm} {row : Int → Int} {ou : Int → Bool}
theorem way_ex (W : WF G) (n0 : 0 ≤ n) (n8 : n ≤ 8) {k : Nat} (hk : k < stN G ou row n) : ∃ t d, WayAt G ou row n k t d := by
  unfold stN at hk
  by_cases hz : nT G = 0
  · rw [if_pos hz] at hk; exact absurd hk (Nat.not_lt_zero _)
  · rw [if_neg hz] at hk
    obtain ⟨t, k', Pk⟩ := Pick_ex (show k < sI (fH G ou row (lb G 0) 0 n) 0 (nT G - 1) from hk)
    obtain ⟨hg, hk'⟩ := fH_pos Pk.2.2.2
    have hi := root_item W (i := 0) (j := n) Pk.1 (show t < nT G by have := Pk.2.1; omega) (goB_spec hg).1 (by decide) n0 n8
    obtain ⟨d, N⟩ := Nth_ex W (mu G 1 (ft G t) 0 n (-1) (-1) + 1).toNat 1 (ft G t) 0 n (-1) (-1) k' hi (by have := (mu_in W hi).1; omega) hk'
    exact ⟨t, d, hz, k', Pk, N⟩
/-- what is known of such a way -/
theorem way_in (I : GIn G) (n0 : 0 ≤ n) (n8 : n ≤ 8) {k : Nat} {t : Int} {d : Dv} (A : WayAt G ou row n k t d) : ∃ k', Pick (fH G ou row (lb G 0) 0 n) 0 (nT G - 1) k t k' ∧ Nth G ou row d 1 (ft G t) 0 n (-1) (-1) k' ∧ k' ≤ k ∧ k' < wW G ou row 1 (ft G t) 0 n (-1) (-1) ∧ 0 ≤ t ∧ t < nT G ∧ goB G ou t (lb G 0) 0 = true ∧ itm G 1 (ft G t) 0 n (-1) (-1) ∧ dst d ≤ 40 ∧ dvS d ≤ 984 ∧ Sh G d 1 (ft G t) := by
  have W := I.1
  obtain ⟨hz, k', Pk, N⟩ := A
  obtain ⟨hg, hk'⟩ := fH_pos Pk.2.2.2
  have t0 := Pk.1
  have t1 : t < nT G := by have := Pk.2.1; omega
  have hi := root_item W (i := 0) (j := n) t0 t1 (goB_spec hg).1 (by decide) n0 n8
  obtain ⟨en, E1, E2⟩ := I.2.2
  have b := Nth_bd I E1 E2 d 1 (ft G t) 0 n (-1) (-1) k' hi hk' N
  have gt := gr_top I t0 t1 n0 n8
  have e2 := E2 t t0 t1
  have st := (wf_step W t0 t1).2
  rw [if_neg (by decide)] at b
  exact ⟨k', Pk, N, by have := Pk.2.2.1; omega, hk', t0, t1, hg, hi, by omega, by omega, Nth_Sh I d 1 (ft G t) 0 n (-1) (-1) k' hi hk' (fun z => absurd z (by decide)) N⟩
def FX (h h' : Hp) : Prop := ∀ c s, (c < 55 ∨ 64 < c ∨ (c = 59 ∧ s ≠ 1) ∨ (c = 55 ∧ 4 ≤ s ∧ s ≤ 6)) → h' c s = h c s
theorem FF.fx (F : FF h h') : FX h h' := by
  intro c s hc
  rcases hc with hc | hc | hc | hc
  · exact F.oth (Or.inl hc) s
  · exact F.oth (Or.inr hc) s
  · rw [hc.1]
    exact F 59 s (Or.inl (by decide)) (by decide) (by decide) (by decide) (Or.inr hc.2) (by decide) (by decide) (by decide) (by decide) (by decide)
  · rw [hc.1]
    exact F.f55 (by omega) (by omega)
theorem FX.tr {a b c : Hp} (x : FX a b) (y : FX b c) : FX a c := fun i s h => by rw [y i s h, x i s h]
theorem FX_55 {k v : Int} (hk : k < 4 ∨ 6 < k) : FX h (hput h 55 k v) := by
  intro c s hc
  by_cases e : c = 55
  · have : s ≠ k := by omega
    exact hput_ne2 this
  · exact hput_ne1 e
theorem FX.vol (F : FX h h') : Vol h h' := by
  intro c s hv
  apply F
  unfold volB at hv
  simp only [Bool.or_eq_false_iff, Bool.and_eq_false_iff, beq_eq_false_iff_ne, decide_eq_false_iff_not] at hv
  omega
theorem hostsAtStart_ok (R : RepX h P G) (W : WF G) (hz : nT G ≠ 0) : Gr_hostsAtStart P h = some (h (P + 12) (lb G 0)) ∧ 0 ≤ lb G 0 ∧ lb G 0 < 26 := by
  have nt := wf_nt W
  obtain ⟨g0, g1, g2, g3, g4, g5, g6, g7, g8, g9, g10, g11, g12, g13⟩ := GrO_k R.1
  have e0 : h P 0 = nT G := R.2.2.1
  have e9 : h P 9 = P + 4 := R.2.1.2.2.2.1
  have e17 : h P 17 = P + 12 := R.2.1.2.2.2.2.2.2.2.2.2.2.2.1
  have st := wf_step W (t := 0) (by decide) (by omega)
  have fi := ft_in W (t := 1) (by decide) (by omega)
  have f0 := (wf_ft W).1
  rw [show (0 : Int) + 1 = 1 by decide] at st
  have kr := (wf_root W (t := 0) (by decide) (by omega)).1
  rw [f0] at kr
  have ll := (wf_lb W (n := 0) (by decide) (by omega)).1 (by omega)
  have f4 : h (P + 4) 0 = lb G 0 := (R.2.2.2.2.2.1 0 (by decide) (by omega)).2.2.1
  unfold Gr_hostsAtStart
  rw [if_pos g0, e0, if_neg hz, e9, f4, e17, if_pos ⟨g4.1, by decide, by rw [g4.2]; decide⟩, if_pos ⟨g12.1, ll.1, by rw [g12.2]; exact ll.2⟩]
  exact ⟨rfl, ll⟩
def wf3 (f : Hp) : Option Hp := ob (Gr_hostsAtStart (f 55 1) f) (fun r54 => ob (WF_putHost 55 r54 ((-1)) ((-1)) f) (fun r59 => ob (loopN (fun q => WF_find_L65 55 q.1 q.2) LN (0, r59)) (fun e213 => some e213)))
def wf2 (k : Int) (f : Hp) : Option Hp := if kK (f 55 1) = 3 then wf3 f else none
def wf1 (k : Int) (f : Hp) : Hp := hput (hput (hput (hput f 55 3 0) 55 10 0) 55 11 ((hput (hput f 55 3 0) 55 10 0) 21 1)) 55 9 k
theorem find_eq (k : Int) (h : Hp) : WF_find 55 21 k 59 h = if kK 55 = 9 then if kK 21 = 1 then if kK ((hput (hput (hput h 55 0 21) 55 1 ((hput h 55 0 21) 21 0)) 55 2 59) 55 2) = 8 then ob (Wy_clear ((hput (hput (hput h 55 0 21) 55 1 ((hput h 55 0 21) 21 0)) 55 2 59) 55 2) (hput (hput (hput h 55 0 21) 55 1 ((hput h 55 0 21) 21 0)) 55 2 59)) (fun r23 => wf2 k (wf1 k r23)) else none else none else none := rfl
theorem WF_find_ok (B : BX h P G o8 n row) (C : CntOK h P G o8 n row) {k : Nat} {t : Int} {d : Dv} (hk : k ≤ 1000000000000000) (A : WayAt G (ouB o8) row n k t d) : ∃ h', WF_find 55 21 k 59 h = some h' ∧ FX h h' ∧ XTab h' 59 (stW G t d) := by
  have I := bx_G B
  have W := bx_W B
  have nn := bx_n B
  have hP := bx_P B
  have S := bx_sx B
  have kP := bx_kP B
  have hz := A.1
  obtain ⟨k', Pk, N, hk', hkw, t0, t1, hg, hi, db, ds, -⟩ := way_in I nn.2.1 nn.2.2 A
  have hr := root_in W t0 t1
  rw [find_eq, if_pos kK_55, if_pos (by decide), hput_ne1 (show (21 : Int) ≠ 55 by decide), C.1, hput_eq, if_pos kK_59]
  generalize hf : hput (hput (hput h 55 0 21) 55 1 P) 55 2 59 = f
  have Fx : FX h f := by rw [← hf]; exact ((FX_55 (Or.inl (by decide))).tr (FX_55 (Or.inl (by decide)))).tr (FX_55 (Or.inl (by decide)))
  have f0 : f 55 0 = 21 := by rw [← hf, hput_ne2 (by decide), hput_ne2 (by decide), hput_eq]
  have f1 : f 55 1 = P := by rw [← hf, hput_ne2 (by decide), hput_eq]
  have f2 : f 55 2 = 59 := by rw [← hf, hput_eq]
  have wy : WyS f 59 := by
    have e : ∀ x, x ≠ 1 → f 59 x = h 59 x := fun x hx => Fx 59 x (Or.inr (Or.inr (Or.inl ⟨rfl, hx⟩)))
    unfold WyS
    rw [e 4 (by decide), e 5 (by decide), e 6 (by decide), e 7 (by decide), e 8 (by decide)]
    exact ⟨sx_at S (by decide), sx_at S (by decide), sx_at S (by decide), sx_at S (by decide), sx_at S (by decide)⟩
  obtain ⟨g, xg, Fg, Tg⟩ := Wy_clear_ok (Or.inl rfl) wy
  have Ffg := FF_fw Fg
  have Fxg := Fx.tr Ffg.fx
  have gl : ∀ c s, c < 59 → g c s = f c s := fun c s hc => Fg c s (Or.inl (by omega)) (by omega) (by omega) (by omega) (by omega) (by omega)
  rw [xg, ob_some]
  have e21 : g 21 1 = n := by rw [Fxg 21 1 (Or.inl (by decide)), C.2.1]
  unfold wf1
  rw [hput_ne1 (show (21 : Int) ≠ 55 by decide), hput_ne1 (show (21 : Int) ≠ 55 by decide), e21]
  generalize hm : hput (hput (hput (hput g 55 3 0) 55 10 0) 55 11 n) 55 9 (k : Int) = m
  have mo : ∀ c s, c ≠ 55 → m c s = g c s := fun c s hc => by rw [← hm, hput_ne1 hc, hput_ne1 hc, hput_ne1 hc, hput_ne1 hc]
  have ms : ∀ s, s ≠ 3 → s ≠ 10 → s ≠ 11 → s ≠ 9 → m 55 s = g 55 s := fun s a b c d => by rw [← hm, hput_ne2 d, hput_ne2 c, hput_ne2 b, hput_ne2 a]
  have m9 : m 55 9 = k := by rw [← hm, hput_eq]
  have m11 : m 55 11 = n := by rw [← hm, hput_ne2 (by decide), hput_eq]
  have m10 : m 55 10 = 0 := by rw [← hm, hput_ne2 (by decide), hput_ne2 (by decide), hput_eq]
  have m3 : m 55 3 = 0 := by rw [← hm, hput_ne2 (by decide), hput_ne2 (by decide), hput_ne2 (by decide), hput_eq]
  have Fxm : FX h m := by
    rw [← hm]
    exact (((Fxg.tr (FX_55 (Or.inl (by decide)))).tr (FX_55 (Or.inr (by decide)))).tr (FX_55 (Or.inr (by decide)))).tr (FX_55 (Or.inr (by decide)))
  have Bm := BX_vol Fxm.vol B
  have Em : FEnv m P G o8 n row := by
    refine ⟨⟨by rw [ms 0 (by decide) (by decide) (by decide) (by decide), gl 55 0 (by decide)]; exact f0, by rw [ms 1 (by decide) (by decide) (by decide) (by decide), gl 55 1 (by decide)]; exact f1, by rw [ms 2 (by decide) (by decide) (by decide) (by decide), gl 55 2 (by decide)]; exact f2, ?_, ?_, ?_⟩, Bm, ?_, ?_⟩
    · exact sx_at (bx_sx Bm) (by decide)
    · exact sx_at (bx_sx Bm) (by decide)
    · exact sx_at (bx_sx Bm) (by decide)
    · unfold CntOK at C ⊢
      rw [Fxm 21 0 (Or.inl (by decide)), Fxm 21 1 (Or.inl (by decide)), Fxm 21 2 (Or.inl (by decide)), Fxm 21 3 (Or.inl (by decide))]
      exact ⟨C.1, C.2.1, C.2.2.1, C.2.2.2.1, Tab_eq C.2.2.2.2 (funext (fun s => Fxm _ s (Or.inl (by decide)))) (funext (fun s => Fxm _ s (Or.inl (by decide)))) (funext (fun s => Fxm _ s (Or.inr (Or.inl (by omega)))))⟩
    · exact ⟨sx_at (bx_sx Bm) (by decide), sx_at (bx_sx Bm) (by decide), sx_at (bx_sx Bm) (by decide), sx_at (bx_sx Bm) (by decide), sx_at (bx_sx Bm) (by decide)⟩
  have Tm : XTab m 59 [] := XTab_hi (fun c s hc => mo c s (by omega)) Tg
  have Km : Fin3 m [] := ⟨m3, trivial⟩
  obtain ⟨hs0, l0, l1⟩ := hostsAtStart_ok (bx_R Bm) W hz
  unfold wf2 wf3
  rw [Em.1.2.1, if_pos kP, hs0, ob_some]
  obtain ⟨p', x', F', T', K'⟩ := putHost_ok (bits := m (P + 12) (lb G 0)) (l := lb G 0) Em (fun t a b => ((bx_R Bm).2.2.2.2.2.2.1 (lb G 0) l0 l1 t a b).1) m9 m10 m11 (by decide) nn.2.1 (Int.le_refl _) hk Pk Tm (fun _ _ _ => rfl) (by decide) (into := -1) (nd' := -1) (Or.inl rfl) Km (by decide)
  have E' := FEnv_ff F' Em
  have ll := lay_len (G := G) d 0 (ft G t) [(t, -1, -1)]
  have l1' : ([(t, -1, -1)] : St).length = 1 := rfl
  obtain ⟨g2, x2, F2, T2⟩ := find_loop (ts := [(d, 0, 1, ft G t, 0, n, -1, -1, k')]) E' T' (by
    have z1 : rawT G (d, 0, 1, ft G t, 0, n, -1, -1, k') = (2 * (12 * ((([] : St).length : Nat) : Int) + 0) + 1, cvr 0 n n n, (k' : Int)) := by
      show (2 * (12 * 0 + off G (ft G t)) + 1, cvr 0 n (cc (-1) n) (cc (-1) n), _) = _
      rw [show off G (ft G t) = 0 by unfold off; rw [hr.2.2]; omega, cc_no]
      rfl
    show Fin3 p' [rawT G (d, 0, 1, ft G t, 0, n, -1, -1, k')]
    rw [z1]
    exact K') (by
    intro v hv
    rcases List.mem_cons.mp hv with e | hv
    · subst e
      exact ⟨hi, Int.le_refl _, by omega, hkw, N, by rw [hr.2.2]; exact (goB_iff.mp hg).2.2, by decide, by show (0 : Int) < ((1 : Nat) : Int); decide, by rw [hr.2.2]; rfl, fun z => absurd z (by decide)⟩
    · exact absurd hv (List.not_mem_nil)) (by
    intro s' n' hs'
    have hs'' : (1 : Int) ≤ s' := hs'
    show (if (-1 : Int) = s' ∧ (-1 : Int) = n' then _ else (-1 : Int)) = -1
    rw [if_neg (by omega)]) (by show (lay G d 0 (ft G t) [(t, -1, -1)]).length ≤ 48; omega) (by show dvS d + 0 ≤ 1000; omega)
  rw [x', ob_some, x2, ob_some]
  exact ⟨g2, rfl, (Fxm.tr F'.fx).tr F2.fx, T2⟩
end
