/-! the class: below a node -/
section
variable {h h' g : Hp} {P o8 n : Int} {G : Gm} {row : Int → Int}
theorem Pick_sub {f : Int → Nat} {lo hi lo' hi' : Int} {k k' : Nat} {x : Int} (Pk : Pick f lo hi k x k') (h1 : lo ≤ lo') (hz : ∀ y, lo ≤ y → y ≤ hi → (y < lo' ∨ hi' < y) → f y = 0) : Pick f lo' hi' k x k' := by
  obtain ⟨P1, P2, P3, P4⟩ := Pk
  have nz : f x ≠ 0 := by omega
  have x0 : lo' ≤ x := Classical.byContradiction (fun z => nz (hz x P1 P2 (Or.inl (by omega))))
  have x1 : x ≤ hi' := Classical.byContradiction (fun z => nz (hz x P1 P2 (Or.inr (by omega))))
  refine ⟨x0, x1, ?_, P4⟩
  rw [P3]
  congr 1
  by_cases he : lo' = x
  · subst he
    rw [sI_none (lo := lo') (by omega), sI_0 (fun y a b => hz y a (by omega) (Or.inl (by omega)))]
  · rw [sI_app (a := lo) (b := lo' - 1) (c := x - 1) (by omega) (by omega), sI_0 (a := lo) (b := lo' - 1) (fun y a b => hz y a (by omega) (Or.inl (by omega))), show lo' - 1 + 1 = lo' by omega, Nat.zero_add]
theorem fS_prod {ou : Int → Bool} (W : WF G) {node i j p q m : Int} (hi : itm G 0 node i j p q) (hk : kd G node = 0) (h2 : c2 G node ≠ -1) (m0 : i ≤ m) (m1 : m ≤ j) (e1 : ¬ (sp G (c1 G node) = 1 ∧ m < q)) (e2 : ¬ (sp G (c2 G node) = 1 ∧ p < m)) : fS G ou row node i j p q m = wW G ou row 1 (c2 G node) m j (gp (sp G (c2 G node)) p) (gp (sp G (c2 G node)) q) * wW G ou row 1 (c1 G node) i m (gp (sp G (c1 G node)) p) (gp (sp G (c1 G node)) q) := by
  obtain ⟨f1, f2, f3⟩ := split_items W hi hk h2 m0 m1 e1 e2
  unfold fS wSplit
  by_cases hr : ¬ (sp G (c1 G node) = 1 ∧ m < q) ∧ ¬ (sp G (c2 G node) = 1 ∧ p < m) ∧ nd G (c1 G node) ≤ cov i m (gp (sp G (c1 G node)) p) (gp (sp G (c1 G node)) q) ∧ nd G (c2 G node) ≤ cov m j (gp (sp G (c2 G node)) p) (gp (sp G (c2 G node)) q)
  · rw [if_pos hr, Nat.mul_comm]
  · rw [if_neg hr]
    by_cases h1 : nd G (c1 G node) ≤ cov i m (gp (sp G (c1 G node)) p) (gp (sp G (c1 G node)) q)
    · have h2' : ¬ nd G (c2 G node) ≤ cov m j (gp (sp G (c2 G node)) p) (gp (sp G (c2 G node)) q) := fun z => hr ⟨e1, e2, h1, z⟩
      rw [wW_z W f2 (by omega), Nat.zero_mul]
    · rw [wW_z W f1 (by omega), Nat.mul_zero]
theorem valueOf_ok (E : FEnv h P G o8 n row) {node i j p q : Int} (hi : itm G 1 node i j p q) (jn : j ≤ n) (ho : ouB o8 (tr G node) = false) : WF_valueOf 55 node (cvr i j (cc p j) (cc q j)) h = some (capN (wW G (ouB o8) row 1 node i j p q)) := by
  have n8 := (bx_n E.2.1).2.2
  have sp' := itm_span hi
  have ccr : 0 ≤ cc p j ∧ cc p j < 16 ∧ 0 ≤ cc q j ∧ cc q j < 16 := by
    unfold cc
    split <;> split <;> omega
  have u := uncover (i := i) (j := j) (by omega) (by omega) (by omega) (by omega) ccr.1 ccr.2.1 ccr.2.2.1 ccr.2.2.2
  have v := val_no E.2.1 E.2.2.1 hi jn
  rw [ho] at v
  unfold WF_valueOf
  rw [if_pos kK_55, E.1.1, if_pos (by decide), u.1, u.2.1, u.2.2.1, u.2.2.2, v, ob_some]
  rfl
def gbN (base c1' fc' w : Int) (f : Hp) : Option Hp := ob (WF_push 55 (f 55 7) (w32 (c1' - base)) 1 fc' (w64 (Int.tdiv (f 55 9) w)) f) (fun r301 => some r301)
def gbQ (base c1' c2' : Int) (z : (Int × Int × Int × Hp) ⊕ (Hp)) : Option Hp :=
  match z with
  | .inl e261 => if kK 55 = 9 then if e261.2.2.1 ≠ 0 then ob (WF_push 55 (e261.2.2.2 55 7) (w32 (c2' - base)) 1 e261.2.1 (w64 (Int.tmod (e261.2.2.2 55 9) e261.2.2.1)) e261.2.2.2) (fun r280 => gbN base c1' e261.1 e261.2.2.1 r280) else none else none
  | .inr e343 => some e343
theorem j129_eq (base c1' c2' l5 l6 s0 : Int) (h : Hp) : WF_goBelow_j129 55 base c1' c2' l5 l6 s0 h = ob (loopN (fun q => WF_goBelow_L131 55 base c1' c2' l5 l6 q.1 q.2) LN (s0, h)) (fun z => gbQ base c1' c2' z) := rfl
theorem L131_step (E : FEnv h P G o8 n row) {s m' base node i j p q m hi' : Int} {κ : Nat} (hi : itm G 0 node i j p q) (jn : j ≤ n) (ho : ouB o8 (tr G node) = false) (hk : kd G node = 0) (h2 : c2 G node ≠ -1) (m0 : i ≤ m) (m1 : m ≤ j) (m2 : m ≤ hi') (e1 : ¬ (sp G (c1 G node) = 1 ∧ m < q)) (e2 : ¬ (sp G (c2 G node) = 1 ∧ p < m)) (hκ : κ ≤ 1000000000000000) (f : Fld h s m' i j p q) (f9 : h 55 9 = (κ : Int)) :
    (fS G (ouB o8) row node i j p q m ≤ κ → ∃ g', WF_goBelow_L131 55 base (c1 G node) (c2 G node) (sp G (c1 G node)) hi' m h = some (.inl (m + 1, g')) ∧ R9 h g' ∧ g' 55 9 = ((κ - fS G (ouB o8) row node i j p q m : Nat) : Int)) ∧ (κ < fS G (ouB o8) row node i j p q m → WF_goBelow_L131 55 base (c1 G node) (c2 G node) (sp G (c1 G node)) hi' m h = some (.inr (.inl (cvr i m (cc (gp (sp G (c1 G node)) p) m) (cc (gp (sp G (c1 G node)) q) m), cvr m j (cc (gp (sp G (c2 G node)) p) j) (cc (gp (sp G (c2 G node)) q) j), capN (wW G (ouB o8) row 1 (c2 G node) m j (gp (sp G (c2 G node)) p) (gp (sp G (c2 G node)) q)), h)))) := by
  have B := E.2.1
  have W := bx_W B
  have n8 := (bx_n B).2.2
  have n0 := hi.2.1
  have n1 := hi.2.2.1
  have sp' := itm_span hi
  have c := (ch_in W n0 n1 hk).1
  have c' := (ch_in W n0 n1 hk).2 h2
  have ss1 := (wf_sp W c.2.1 c.2.2.1).1
  have ss2 := (wf_sp W c'.2.1 c'.2.2.1).1
  have ssn := (wf_sp W n0 n1).2.2.2 hk
  rw [if_neg h2] at ssn
  obtain ⟨u1, u2, u3⟩ := split_items W hi hk h2 m0 m1 e1 e2
  have v1 := valueOf_ok E u1 (show m ≤ n by omega) (by rw [c.2.2.2]; exact ho)
  have v2 := valueOf_ok E u2 jn (by rw [c'.2.2.2]; exact ho)
  have pr := fS_prod (ou := ouB o8) (row := row) W hi hk h2 m0 m1 e1 e2
  have ew : w32 (m + 1) = m + 1 := by unfold w32; omega
  obtain ⟨q7, q8, q10, q11, q12, q13⟩ := f
  have go : WF_goBelow_L131 55 base (c1 G node) (c2 G node) (sp G (c1 G node)) hi' m h = WF_goBelow_j220 55 base (c1 G node) (c2 G node) (sp G (c1 G node)) hi' m (cvr i m (cc (gp (sp G (c1 G node)) p) m) (cc (gp (sp G (c1 G node)) q) m)) (cvr m j (cc (gp (sp G (c2 G node)) p) j) (cc (gp (sp G (c2 G node)) q) j)) h := by
    unfold WF_goBelow_L131
    rw [if_neg (by omega)]
    rcases ss1 with z | z
    · rw [z, if_pos rfl, if_pos kK_55, q10, cover_ok (by omega) (by omega) (by omega) (by omega) (by omega) (by omega) (by omega) (by omega), ob_some]
      unfold WF_goBelow_j176
      rw [if_pos rfl, if_pos kK_55, q11, q12, q13]
      have hc : 0 ≤ cc p j ∧ cc p j < 16 ∧ 0 ≤ cc q j ∧ cc q j < 16 ∧ cc (gp (sp G (c2 G node)) p) j = cc p j ∧ cc (gp (sp G (c2 G node)) q) j = cc q j := by
        rcases ss2 with z2 | z2
        · rw [z2, gp_0, gp_0]
          rcases hi.2.2.2.2.2.2 with ⟨w, -⟩ | ⟨-, w1, w2⟩
          · omega
          · rw [w1, w2, cc_no]; omega
        · rw [z2, gp_1, gp_1]
          unfold cc
          split <;> split <;> omega
      rw [cover_ok (by omega) (by omega) (by omega) (by omega) hc.1 hc.2.1 hc.2.2.1 hc.2.2.2.1, ob_some, gp_0, gp_0, cc_no, hc.2.2.2.2.1, hc.2.2.2.2.2]
    · have z2 : sp G (c2 G node) = 0 := by
        rcases hi.2.2.2.2.2.2 with ⟨w, -⟩ | ⟨w, -⟩ <;> omega
      have hg : 0 ≤ p ∧ p ≤ q ∧ q ≤ j := by
        rcases hi.2.2.2.2.2.2 with ⟨-, w1, w2, w3⟩ | ⟨w, -⟩
        · omega
        · omega
      rw [z, if_neg (by decide), if_pos kK_55, q10, q12, q13, cc_yes j hg.1, cc_yes j (by omega), cover_ok (by omega) (by omega) (by omega) (by omega) (by omega) (by omega) (by omega) (by omega), ob_some]
      unfold WF_goBelow_j176
      rw [if_neg (by decide), if_pos kK_55, q11, cover_ok (by omega) (by omega) (by omega) (by omega) (by omega) (by omega) (by omega) (by omega), ob_some, z2, gp_0, gp_0, cc_no, gp_1, gp_1, cc_yes m hg.1, cc_yes m (by omega)]
  rw [go]
  unfold WF_goBelow_j220
  rw [if_pos kK_55, v1, ob_some, v2, ob_some, f9, pr]
  generalize wW G (ouB o8) row 1 (c2 G node) m j (gp (sp G (c2 G node)) p) (gp (sp G (c2 G node)) q) = w0
  generalize wW G (ouB o8) row 1 (c1 G node) i m (gp (sp G (c1 G node)) p) (gp (sp G (c1 G node)) q) = w1
  have off0 : ∃ g', WF_goBelow_j333 55 base (c1 G node) (c2 G node) (sp G (c1 G node)) hi' m 0 (κ : Int) 55 h = some (.inl (m + 1, g')) ∧ R9 h g' ∧ g' 55 9 = ((κ - 0 : Nat) : Int) := by
    unfold WF_goBelow_j333
    rw [if_pos kK_55, ew, show w64 ((κ : Int) - 0) = κ by unfold w64; omega]
    refine ⟨_, rfl, ?_, by rw [hput_eq]; rfl⟩
    intro x s z
    rcases z with z | z
    · exact hput_ne1 z
    · exact hput_ne2 z
  refine ⟨fun hf => ?_, fun hf => ?_⟩
  · have fin : ∃ g', WF_goBelow_j305 55 base (c1 G node) (c2 G node) (sp G (c1 G node)) hi' m (capN w1) (capN w0) h = some (.inl (m + 1, g')) ∧ R9 h g' ∧ g' 55 9 = ((κ - w0 * w1 : Nat) : Int) := by
      have c0' := capN_in w0
      have c1'' := capN_in w1
      unfold WF_goBelow_j305 WF_goBelow_j332
      rw [if_pos kK_55, f9]
      by_cases h0 : w0 = 0
      · subst h0
        rw [if_pos (by decide), Nat.zero_mul]
        exact off0
      · rw [if_neg (fun z => h0 (capN_0.mp (by omega)))]
        by_cases h1 : w1 = 0
        · subst h1
          rw [if_pos (by decide), Nat.mul_zero]
          exact off0
        · rw [if_neg (fun z => h1 (capN_0.mp (by omega)))]
          unfold WF_goBelow_j333
          rw [if_pos kK_55, ew, tk_off hκ hf h0 h1]
          refine ⟨_, rfl, ?_, hput_eq _ _ _ _⟩
          intro x s z
          rcases z with z | z
          · exact hput_ne1 z
          · exact hput_ne2 z
    by_cases h0 : w0 = 0
    · rw [if_pos (show capN w0 ≤ 0 by rw [h0]; decide)]; exact fin
    · have c0' := capN_in w0
      have cn : capN w0 ≠ 0 := fun z => h0 (capN_0.mp z)
      rw [if_neg (show ¬ capN w0 ≤ 0 by omega), if_pos cn, if_pos (tk_le hκ hf h0)]
      exact fin
  · obtain ⟨h0, h1, h2⟩ := tk_lt hκ hf
    have c0' := capN_in w0
    have cn : capN w0 ≠ 0 := fun z => h0 (capN_0.mp z)
    rw [if_neg (show ¬ capN w0 ≤ 0 by omega), if_pos cn, if_neg h2]
theorem goBelow_ok (E : FEnv h P G o8 n row) {s node i j p q : Int} {k : Nat} {d : Dv} {st : St} (hk0 : kd G node = 0) (t' : Tok G o8 n row st (d, s, 0, node, i, j, p, q, k)) (f : Fld h s (off G node) i j p q) (f9 : h 55 9 = (k : Int)) (T : XTab h 59 st) (F : Fresh st) (hl : st.length ≤ 48) {ts : List (Int × Int × Int)} (K : Fin3 h ts) (hts : ts.length + 1 < 1024) :
    ∃ h', WF_goBelow 55 node h = some h' ∧ Done h h' G o8 n row d s node st ts := by
  obtain ⟨hi, jn, hk, hkw, N, ho, s0, s1, et, -⟩ := t'
  have B := E.2.1
  have W := bx_W B
  have I := bx_G B
  have R := bx_R B
  have nn := wf_nn W
  have nt := wf_nt W
  have n8 := (bx_n B).2.2
  have sp' := itm_span hi
  have n0 := hi.2.1
  have n1 := hi.2.2.1
  have ht := wf_tr W n0 n1
  have c := (ch_in W n0 n1 hk0).1
  have rl := rel_in W n0 n1
  have rl1 := rel_in W c.2.1 c.2.2.1
  rw [c.2.2.2] at rl1
  obtain ⟨k0, k1, -, -, -, -, k6, k7, -, -, k10, -⟩ := GrO_k R.1
  obtain ⟨w0, w1, -⟩ := WyO_k (w := 59) (Or.inl rfl)
  have e1 : h 55 1 = P := E.1.2.1
  have e2 : h 55 2 = 59 := E.1.2.2.1
  have e4 : h 59 4 = 59 + 1 := E.2.2.2.1
  have e60 : h (59 + 1) s = tr G node := by rw [(T.2.1 s s0 s1).1]; exact et
  have e6 : h P 6 = P + 1 := R.2.1.1
  have e11 : h P 11 = P + 6 := R.2.1.2.2.2.2.2.1
  have e12 : h P 12 = P + 7 := R.2.1.2.2.2.2.2.2.1
  have e15 : h P 15 = P + 10 := R.2.1.2.2.2.2.2.2.2.2.2.1
  have eft : h (P + 1) (tr G node) = ft G (tr G node) := R.2.2.2.2.1 _ ht.1 (by omega)
  have rn := R.2.2.2.2.2.1 node n0 n1
  have ec1 : h (P + 6) node = c1 G node := rn.2.2.2.2.1
  have ec2 : h (P + 7) node = c2 G node := rn.2.2.2.2.2.1
  have es1 : h (P + 10) (c1 G node) = sp G (c1 G node) := (R.2.2.2.2.2.1 _ c.2.1 c.2.2.1).2.2.2.2.2.2.2.2
  have ew1 : w32 (c1 G node - ft G (tr G node)) = off G (c1 G node) := by unfold off w32; rw [c.2.2.2]; omega
  have o1 : 0 ≤ off G (c1 G node) ∧ off G (c1 G node) < 12 := by unfold off; rw [c.2.2.2]; omega
  have ccr : 0 ≤ cc p j ∧ cc p j < 16 ∧ 0 ≤ cc q j ∧ cc q j < 16 := by
    unfold cc
    split <;> split <;> omega
  unfold WF_goBelow
  rw [if_pos kK_55, e1, if_pos k0, e2, if_pos kK_59, e4, f.1, if_pos ⟨w1.1, s0, by rw [w1.2]; omega⟩, e6, e60, if_pos ⟨k1.1, ht.1, by rw [k1.2]; omega⟩, e11, if_pos ⟨k6.1, n0, by rw [k6.2]; omega⟩, e12, if_pos ⟨k7.1, n0, by rw [k7.2]; omega⟩, ec2, ec1, eft, ew1]
  cases d with
  | zero => have := N.2.1; omega
  | var _ => exact False.elim N
  | intMul t d =>
    rcases N with ⟨z, -⟩ | ⟨-, z, -⟩
    · exact absurd z (by decide)
    · omega
  | neg _ => exact absurd N.1 (by decide)
  | sub _ _ => exact absurd N.1 (by decide)
  | natMul m d' =>
    obtain ⟨k0', c2', f1, hk', nd', -, -⟩ := inv_unary I hi hkw N
    obtain ⟨g2, x2, K2, o2⟩ := push_ok (s := s) (n := off G (c1 G node)) (half := 1) (c := cvr i j (cc p j) (cc q j)) (r := (k : Int)) E.1 K (by omega) s0 (by omega) o1.1 o1.2 (Or.inr rfl)
    rw [if_pos c2', f.2.2.1, f.2.2.2.1, f.2.2.2.2.1, f.2.2.2.2.2, cover_ok (by omega) (by omega) (by omega) (by omega) ccr.1 ccr.2.1 ccr.2.2.1 ccr.2.2.2, ob_some, f9, x2, ob_some]
    refine ⟨g2, rfl, [(d', s, 1, c1 G node, i, j, p, q, k)], st, FF_push o2, XTab_hi (fun c s hc => o2 c s (Or.inl (by omega)) (by omega) (by omega) (by omega)) T, K2, ?_, F, rfl, ?_, Nat.le_refl _, fun _ _ => rfl⟩
    · intro u hu
      rcases List.mem_cons.mp hu with e | hu
      · subst e
        exact ⟨f1, jn, hk, hk', nd', by rw [c.2.2.2]; exact ho, s0, s1, by rw [c.2.2.2]; exact et, fun z => absurd z (by decide)⟩
      · exact absurd hu (List.not_mem_nil)
    · show dvS d' + 0 + 1 ≤ dvS d' + 1
      omega
  | add x y =>
    obtain ⟨k0', c2', m, k1', Pm, m0, m1, q1, q2, f1, f2, rr2, rr3, nx, ny, -, -, -⟩ := inv_split I hi N
    have c' := (ch_in W n0 n1 hk0).2 c2'
    have rl2 := rel_in W c'.2.1 c'.2.2.1
    rw [c'.2.2.2] at rl2
    have ew2 : w32 (c2 G node - ft G (tr G node)) = off G (c2 G node) := by unfold off w32; rw [c'.2.2.2]; omega
    have o2' : 0 ≤ off G (c2 G node) ∧ off G (c2 G node) < 12 := by unfold off; rw [c'.2.2.2]; omega
    have ss1 := (wf_sp W c.2.1 c.2.2.1).1
    have ss2 := (wf_sp W c'.2.1 c'.2.2.1).1
    have ssn := (wf_sp W n0 n1).2.2.2 hk0
    rw [if_neg c2'] at ssn
    -- the range of the loop
    obtain ⟨lo, hi', hlo, hr, hgo⟩ : ∃ lo hi' : Int, (i ≤ lo ∧ hi' ≤ j) ∧ (∀ y, i ≤ y → y ≤ j → ((lo ≤ y ∧ y ≤ hi') ↔ (¬ (sp G (c1 G node) = 1 ∧ y < q) ∧ ¬ (sp G (c2 G node) = 1 ∧ p < y)))) ∧ WF_goBelow_j111 55 (ft G (tr G node)) (c1 G node) (c2 G node) (sp G (c1 G node)) (if sp G (c1 G node) = 0 then cc p j else j) h = WF_goBelow_j129 55 (ft G (tr G node)) (c1 G node) (c2 G node) (sp G (c1 G node)) hi' lo h := by
      unfold WF_goBelow_j111
      rcases ss1 with z | z
      · refine ⟨i, cc p j, ⟨Int.le_refl _, by unfold cc; split <;> omega⟩, ?_, ?_⟩
        · intro y y0 y1
          unfold cc
          rcases hi.2.2.2.2.2.2 with ⟨w, w1, w2, w3⟩ | ⟨w, w1, w2⟩
          · rw [if_neg (by omega)]; omega
          · rw [if_pos w1]; omega
        · rw [if_pos z, if_pos z, if_pos kK_55, f.2.2.1]
      · refine ⟨q, j, ⟨?_, Int.le_refl _⟩, ?_, ?_⟩
        · rcases hi.2.2.2.2.2.2 with ⟨w, w1, w2, w3⟩ | ⟨w, w1, w2⟩ <;> omega
        · intro y y0 y1
          rcases hi.2.2.2.2.2.2 with ⟨w, w1, w2, w3⟩ | ⟨w, w1, w2⟩ <;> omega
        · have : cc q j = q := by
            rcases hi.2.2.2.2.2.2 with ⟨w, w1, w2, w3⟩ | ⟨w, w1, w2⟩
            · exact cc_yes j (by omega)
            · omega
          have z0 : ¬ sp G (c1 G node) = 0 := by omega
          rw [if_neg z0, if_neg z0, if_pos kK_55, f.2.2.2.2.2, this]
    have Pm' := Pick_sub (lo' := lo) (hi' := hi') Pm hlo.1 (by
      intro y y0 y1 hy
      unfold fS wSplit
      rw [if_neg]
      intro w
      have := (hr y y0 y1).mpr ⟨w.1, w.2.1⟩
      omega)
    obtain ⟨P1, P2, P3, P4⟩ := Pm'
    have hk1 : k1' ≤ 1000000000000000 := by omega
    obtain ⟨r, x', g, rg, g9, er⟩ := walkH (h := h) (body := fun q' => WF_goBelow_L131 55 (ft G (tr G node)) (c1 G node) (c2 G node) (sp G (c1 G node)) hi' q'.1 q'.2) (f := fS G (ouB o8) row node i j p q) (lo := lo) (y1 := m) (k := k) (fun r => ∃ g, R9 h g ∧ g 55 9 = (k1' : Int) ∧ r = .inl (cvr i m (cc (gp (sp G (c1 G node)) p) m) (cc (gp (sp G (c1 G node)) q) m), cvr m j (cc (gp (sp G (c2 G node)) p) j) (cc (gp (sp G (c2 G node)) q) j), capN (wW G (ouB o8) row 1 (c2 G node) m j (gp (sp G (c2 G node)) p) (gp (sp G (c2 G node)) q)), g)) f9 (by omega) P1 (by omega) (by
      intro y κ' g1 y0 y1 r1 q9 hf' hκ'
      have E1 := FEnv_ff r1.ff E
      have F1 := Fld_9 r1 f
      have rr := (hr y (by omega) (by omega)).mp ⟨y0, by omega⟩
      obtain ⟨g', x1, r2', q1'⟩ := (L131_step (base := ft G (tr G node)) E1 hi jn ho hk0 c2' (show i ≤ y by omega) (by omega) (show y ≤ hi' by omega) rr.1 rr.2 (show κ' ≤ 1000000000000000 by omega) F1 q9).1 hf'
      exact ⟨g', x1, r1.tr r2', q1'⟩) (by
      intro g1 r1 q9
      have E1 := FEnv_ff r1.ff E
      have F1 := Fld_9 r1 f
      rw [show k - sI (fS G (ouB o8) row node i j p q) lo (m - 1) = k1' by omega] at q9
      exact ⟨_, (L131_step (base := ft G (tr G node)) E1 hi jn ho hk0 c2' m0 m1 P2 q1 q2 hk1 F1 q9).2 P4, g1, r1, q9, rfl⟩)
    have wne : capN (wW G (ouB o8) row 1 (c2 G node) m j (gp (sp G (c2 G node)) p) (gp (sp G (c2 G node)) q)) ≠ 0 := fun z => by rw [capN_0.mp z] at rr3; exact Nat.not_lt_zero _ rr3
    have Eg := FEnv_ff rg.ff E
    have Fg := Fld_9 rg f
    have Tg : XTab g 59 st := XTab_hi (fun c s hc => rg c s (Or.inl (by omega))) T
    have Kg : Fin3 g ts := Fin3_eq (rg 55 3 (Or.inr (by decide))) (fun c s a b => rg c s (Or.inl (by omega))) K
    obtain ⟨g2, x2, K2, o2⟩ := push_ok (s := s) (n := off G (c2 G node)) (half := 1) (c := cvr m j (cc (gp (sp G (c2 G node)) p) j) (cc (gp (sp G (c2 G node)) q) j)) (r := ((k1' % wW G (ouB o8) row 1 (c2 G node) m j (gp (sp G (c2 G node)) p) (gp (sp G (c2 G node)) q) : Nat) : Int)) Eg.1 Kg (by omega) s0 (by omega) o2'.1 o2'.2 (Or.inr rfl)
    have F2 := FF_push o2
    have E2 := FEnv_ff F2 Eg
    have T2 : XTab g2 59 st := XTab_hi (fun c s hc => o2 c s (Or.inl (by omega)) (by omega) (by omega) (by omega)) Tg
    have qq : ∀ x, x ≠ 3 → g2 55 x = g 55 x := fun x hx => o2 55 x (Or.inr hx) (by decide) (by decide) (by decide)
    obtain ⟨g3, x3, K3, o3⟩ := push_ok (s := s) (n := off G (c1 G node)) (half := 1) (c := cvr i m (cc (gp (sp G (c1 G node)) p) m) (cc (gp (sp G (c1 G node)) q) m)) (r := ((k1' / wW G (ouB o8) row 1 (c2 G node) m j (gp (sp G (c2 G node)) p) (gp (sp G (c2 G node)) q) : Nat) : Int)) E2.1 K2 (by show ts.length + 1 < 1024; exact hts) s0 (by omega) o1.1 o1.2 (Or.inr rfl)
    rw [if_neg c2', e15, if_pos ⟨k10.1, c.2.1, by rw [k10.2]; omega⟩, es1, f.2.2.2.2.1, f.2.2.2.1, hgo, j129_eq, x', ob_some, er]
    show ∃ h', (if kK 55 = 9 then if capN (wW G (ouB o8) row 1 (c2 G node) m j (gp (sp G (c2 G node)) p) (gp (sp G (c2 G node)) q)) ≠ 0 then ob (WF_push 55 (g 55 7) (w32 (c2 G node - ft G (tr G node))) 1 (cvr m j (cc (gp (sp G (c2 G node)) p) j) (cc (gp (sp G (c2 G node)) q) j)) (w64 (Int.tmod (g 55 9) (capN (wW G (ouB o8) row 1 (c2 G node) m j (gp (sp G (c2 G node)) p) (gp (sp G (c2 G node)) q))))) g) (fun r280 => gbN (ft G (tr G node)) (c1 G node) (cvr i m (cc (gp (sp G (c1 G node)) p) m) (cc (gp (sp G (c1 G node)) q) m)) (capN (wW G (ouB o8) row 1 (c2 G node) m j (gp (sp G (c2 G node)) p) (gp (sp G (c2 G node)) q))) r280) else none else none) = some h' ∧ _
    rw [if_pos kK_55, if_pos wne, Fg.1, ew2, g9, cap_mod hk1, x2, ob_some]
    unfold gbN
    rw [qq 7 (by decide), Fg.1, ew1, qq 9 (by decide), g9, cap_div hk1, x3, ob_some]
    refine ⟨g3, rfl, [(x, s, 1, c1 G node, i, m, gp (sp G (c1 G node)) p, gp (sp G (c1 G node)) q, k1' / wW G (ouB o8) row 1 (c2 G node) m j (gp (sp G (c2 G node)) p) (gp (sp G (c2 G node)) q)), (y, s, 1, c2 G node, m, j, gp (sp G (c2 G node)) p, gp (sp G (c2 G node)) q, k1' % wW G (ouB o8) row 1 (c2 G node) m j (gp (sp G (c2 G node)) p) (gp (sp G (c2 G node)) q))], st, (rg.ff.tr F2).tr (FF_push o3), XTab_hi (fun c s hc => o3 c s (Or.inl (by omega)) (by omega) (by omega) (by omega)) T2, K3, ?_, F, rfl, ?_, Nat.le_refl _, fun _ _ => rfl⟩
    · intro u hu
      rcases List.mem_cons.mp hu with e | hu
      · subst e
        exact ⟨f1, by omega, by have := Nat.div_le_self k1' (wW G (ouB o8) row 1 (c2 G node) m j (gp (sp G (c2 G node)) p) (gp (sp G (c2 G node)) q)); omega, rr2, nx, by rw [c.2.2.2]; exact ho, s0, s1, by rw [c.2.2.2]; exact et, fun z => absurd z (by decide)⟩
      · rcases List.mem_cons.mp hu with e | hu
        · subst e
          exact ⟨f2, jn, by have := Nat.mod_le k1' (wW G (ouB o8) row 1 (c2 G node) m j (gp (sp G (c2 G node)) p) (gp (sp G (c2 G node)) q)); omega, rr3, ny, by rw [c'.2.2.2]; exact ho, s0, s1, by rw [c'.2.2.2]; exact et, fun z => absurd z (by decide)⟩
        · exact absurd hu (List.not_mem_nil)
    · show dvS x + (dvS y + 0) + 1 ≤ dvS x + dvS y + 1
      omega
end
