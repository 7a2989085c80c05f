/-! arcs: both -/
section
variable {G : Gm}
theorem lay_in : ∀ (d : Dv) (s node : Int) (st : St), 0 ≤ s → s < (st.length : Int) → (∀ s' : Int, 1 ≤ s' → s' < (st.length : Int) → 0 ≤ (sEnt st s').2.1 ∧ (sEnt st s').2.1 < s') → ∀ s' : Int, 1 ≤ s' → s' < ((lay G d s node st).length : Int) → 0 ≤ (sEnt (lay G d s node st) s').2.1 ∧ (sEnt (lay G d s node st) s').2.1 < s'
  | .zero, s, node, st, s0, s1, h, s', a, b => h s' a b
  | .var _, s, node, st, s0, s1, h, s', a, b => h s' a b
  | .neg d, s, node, st, s0, s1, h, s', a, b => lay_in d s node st s0 s1 h s' a b
  | .intMul t d, s, node, st, s0, s1, h, s', a, b => by
    refine lay_in d st.length (ft G t) ((t, s, off G node) :: st) (by omega) (by show (st.length : Int) < ((st.length + 1 : Nat) : Int); omega) ?_ s' a b
    intro s'' a' b'
    have b2 : s'' < ((st.length + 1 : Nat) : Int) := b'
    show 0 ≤ (if s'' = (st.length : Int) then (t, s, off G node) else sEnt st s'').2.1 ∧ (if s'' = (st.length : Int) then (t, s, off G node) else sEnt st s'').2.1 < s''
    by_cases e : s'' = (st.length : Int)
    · rw [if_pos e]; exact ⟨s0, by show s < s''; omega⟩
    · rw [if_neg e]; exact h s'' a' (by omega)
  | .natMul _ d, s, node, st, s0, s1, h, s', a, b => lay_in d s _ st s0 s1 h s' a b
  | .add x y, s, node, st, s0, s1, h, s', a, b => lay_in y s _ _ s0 (by rw [lay_len]; omega) (fun s'' a' b' => lay_in x s _ st s0 s1 h s'' a' b') s' a b
  | .sub x d, s, node, st, s0, s1, h, s', a, b => lay_in d s _ _ s0 (by rw [lay_len]; omega) (fun s'' a' b' => lay_in x s _ st s0 s1 h s'' a' b') s' a b
theorem stW_in {t : Int} {d : Dv} {s : Int} (a : 1 ≤ s) (b : s < ((stW G t d).length : Int)) : 0 ≤ (sEnt (stW G t d) s).2.1 ∧ (sEnt (stW G t d) s).2.1 < s :=
  lay_in d 0 (ft G t) [(t, -1, -1)] (Int.le_refl _) (by show (0 : Int) < ((1 : Nat) : Int); decide) (fun s' a' b' => by
    have b2 : s' < ((1 : Nat) : Int) := b'
    omega) s a b
end
section
variable {h h' g g' : Hp} {P o8 n : Int} {G : Gm} {row : Int → Int}
theorem arcs_both (B' : BX h' P G o8 n row) (Bg' : BM g' G o8 n row) (S' : SShp g') {t : Int} {dv : Dv} (t0 : 0 ≤ t) (t1 : t < nT G) (sh : Sh G dv 1 (ft G t)) (db : dst dv ≤ 40) (X' : XWay h' G t dv) (M' : MWay g' G n t dv) : ∃ L hd inn, ArX h' 59 L hd inn ∧ ArM g' L hd inn := by
  have I := bx_G B'
  have S := bx_sx B'
  have nL := bm_L Bg'
  obtain ⟨-, -, sl, s0⟩ := stW_At I t0 t1 sh
  obtain ⟨-, -, hh⟩ := both_letters I Bg' t0 t1 sh X' M'
  have hr : ∀ s : Int, 0 ≤ s → s < ((stW G t dv).length : Int) → -1 ≤ g' 151 s ∧ g' 151 s < 1000 := by
    intro s a b
    rcases M'.2.2.2 s a b with ⟨q, -⟩ | ⟨m, ⟨m0, m1⟩, -, -, q⟩
    · rw [q]; decide
    · rw [q]; have := nL.2.2.1; omega
  refine ⟨((stW G t dv).length : Int), g' 151, fun s => (sEnt (stW G t dv) s).2.1, ⟨Or.inl rfl, ⟨sx_at S (by decide), sx_at S (by decide), sx_at S (by decide), sx_at S (by decide), sx_at S (by decide)⟩, X'.1.1, ⟨by omega, by omega⟩, fun s a b => ⟨hh s a b, (X'.1.2.1 s a b).2.1, hr s a b, fun c => ?_⟩⟩, ⟨S', M'.1.1, ⟨by omega, by omega⟩, fun s a b => ⟨rfl, (M'.1.2 s a b).2.1, hr s a b, fun c => ?_, fun c => ?_⟩⟩⟩
  · have := stW_in c b
    exact ⟨this.1, Int.lt_trans this.2 b⟩
  · subst c; show (sEnt (stW G t dv) 0).2.1 = -1; rw [s0]
  · have := stW_in c b
    exact ⟨this.1, Int.lt_trans this.2 b⟩
theorem arcs_ok (A : PreW h g P G o8 n row) {d : Nat} (hd : 1954 ≤ d) (k what : Int) : ∃ v h' g', X_arcs 0 k what h = some (v, h') ∧ M_arcs d 121 k what g = some (v, g') ∧ XA h h' P G o8 n row ∧ LyF g g' := by
  obtain ⟨v, h', g', x, y, X, L, w, B', Bg', S'⟩ := found_both A (d := d - 1) (by omega) k
  rw [xq_arcs_eq, mq_arcs_eq, if_pos (by decide), if_pos kK_121, x, y, ob_some, ob_some]
  show ∃ v' h'' g'', xq_arcs what v h' = _ ∧ mq_arcs d what v g' = _ ∧ _
  unfold xq_arcs mq_arcs
  rcases w with w | ⟨w, t, dv, ⟨t0, t1, hs⟩, sh, db, X', M'⟩
  · rw [if_neg (by omega), if_neg (by omega)]
    exact ⟨v, h', g', rfl, rfl, X, L⟩
  · subst w
    obtain ⟨L', hd', inn, ax, am⟩ := arcs_both B' Bg' S' t0 t1 sh db X' M'
    have S := bx_sx B'
    rw [if_pos (Int.le_refl 0), sx_at S (show (0, 11, 59) ∈ shX by decide), if_pos kK_59, if_pos rfl, M_in_ok, ob_some, arcCount_ok ax, ob_some, crossings_ok ax, ob_some, longestArc_ok ax, ob_some, M_arcs_loop am, ob_some]
    by_cases w0 : what = 0
    · rw [if_pos w0, if_pos (show 0 ≤ what ∧ what ≤ 2 by omega), if_neg (show ¬ (1 : Int) = 0 by decide), if_pos w0]
      exact ⟨_, h', g', rfl, rfl, X, L⟩
    rw [if_neg w0]
    by_cases w1 : what = 1
    · rw [if_pos w1, if_pos (show 0 ≤ what ∧ what ≤ 2 by omega), if_neg (show ¬ (1 : Int) = 0 by decide), if_neg w0, if_pos w1]
      exact ⟨_, h', g', rfl, rfl, X, L⟩
    rw [if_neg w1]
    by_cases w2 : what = 2
    · rw [if_pos w2, if_pos (show 0 ≤ what ∧ what ≤ 2 by omega), if_neg (show ¬ (1 : Int) = 0 by decide), if_neg w0, if_neg w1]
      exact ⟨_, h', g', rfl, rfl, X, L⟩
    rw [if_neg w2, if_neg (show ¬ (0 ≤ what ∧ what ≤ 2) by omega), if_pos rfl]
    exact ⟨_, h', g', rfl, rfl, X, L⟩
end
