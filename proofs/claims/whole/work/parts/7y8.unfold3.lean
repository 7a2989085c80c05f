/-! the class: a turn of unfolding -/
abbrev Cx : Type := List (Dv × Int × Int)
abbrev Uk : Type := Option (Dv × Int × Int × Int × Cx)
def rawU (G : Gm) : Uk → Int
  | none => -1
  | some (_, s, half, node, _) => 2 * (12 * s + off G node) + half
def cxF {α : Type} (f : Dv → Int → Int → α → α) (z : α) : Cx → α
  | [] => z
  | (d, s, node) :: r => f d s node (cxF f z r)
def SpU (G : Gm) (node : Int) : Prop := sp G node = 1 → sp G (ft G (tr G node)) = 1
/-- where the foot of step s goes on -/
def CxOK (G : Gm) (st : St) (M : Int) : Int → Cx → Prop
  | s, [] => sp G (ft G (sEnt st s).1) = 0
  | s, (d', s', node') :: r => sp G (ft G (sEnt st s).1) = 0 ∨ ((sEnt st s).2 = (s', off G node') ∧ (0 ≤ s' ∧ s' < (st.length : Int)) ∧ (0 ≤ node' ∧ node' < nN G) ∧ ((sEnt st s').1 = tr G node' ∧ SpU G node') ∧ At G st 0 M d' s' 0 node' ∧ CxOK G st M s' r)
def Uok (G : Gm) (st : St) (M : Int) : Uk → Prop
  | none => True
  | some (d, s, half, node, cx) => (half = 0 ∨ half = 1) ∧ At G st 0 M d s half node ∧ (0 ≤ s ∧ s < (st.length : Int)) ∧ (0 ≤ node ∧ node < nN G) ∧ ((sEnt st s).1 = tr G node ∧ SpU G node) ∧ CxOK G st M s cx
def nC : List Uk → Nat
  | [] => 0
  | none :: r => nC r + 1
  | some _ :: r => nC r
def rT (G : Gm) (st : St) : List Uk → List Int → List Int
  | [], t => t
  | none :: r, t => rT G st r (t ++ [41])
  | some (d, s, _, node, cx) :: r, t => rT G st r (emit t (uT G st d s node (cxF (uT G st) [] cx)))
def rL (G : Gm) (st : St) : List Uk → List (Int × Int) → List (Int × Int)
  | [], t => t
  | none :: r, t => rL G st r t
  | some (d, s, _, node, cx) :: r, t => rL G st r (t ++ uY G st d s node (cxF (uY G st) [] cx))
def rB (G : Gm) (st : St) : List Uk → Nat → Nat
  | [], t => t
  | none :: r, t => rB G st r t
  | some (d, s, _, node, cx) :: r, t => rB G st r (t + uB G st d s node (cxF (uB G st) 0 cx))
def rD (G : Gm) (st : St) : List Uk → Nat → Nat
  | [], t => t
  | none :: r, t => rD G st r t
  | some (d, s, _, node, cx) :: r, t => rD G st r (max t (nC r + uD G st d s node (cxF (uD G st) 0 cx)))
def rW (G : Gm) (st : St) : List Uk → Nat
  | [] => 0
  | none :: r => 1 + rW G st r
  | some (d, s, _, node, cx) :: r => uW G st d s node (cxF (uW G st) 0 cx) + rW G st r
def rC (G : Gm) (st : St) : List Uk → Nat
  | [] => 0
  | none :: r => 1 + rC G st r
  | some (d, s, _, node, cx) :: r => uC G st d s node (cxF (uC G st) 0 cx) + rC G st r
theorem uW_pos {G : Gm} {st : St} {M : Int} : ∀ (d : Dv) (s half node : Int) (F : Nat), At G st 0 M d s half node → 1 ≤ uW G st d s node F
  | .zero, s, half, node, F, A => by
    show 1 ≤ if kd G node = 1 then 1 else if kd G node = 3 then F + 1 else 1
    split
    · omega
    · split <;> omega
  | .var _, _, _, _, _, A => False.elim A
  | .neg d, s, half, node, F, A => uW_pos d s 0 node F A.2.2.2
  | .intMul t d, s, half, node, F, A => by
    obtain ⟨-, -, s', -, pu, -, A'⟩ := A
    show 1 ≤ uW G st d (sPut st s (off G node)) (ft G t) F
    rw [pu]
    exact uW_pos d s' 1 (ft G t) F A'
  | .natMul _ d, s, half, node, F, A => by
    show 1 ≤ uW G st d s (c1 G node) F + 1
    omega
  | .add x y, s, half, node, F, A => by
    show 1 ≤ uW G st x s (c1 G node) F + uW G st y s (c2 G node) F + 1
    omega
  | .sub x d, s, half, node, F, A => uW_pos x s 2 node _ A.2.2.1
theorem rW_len {G : Gm} {st : St} {M : Int} : ∀ ts : List Uk, (∀ u ∈ ts, Uok G st M u) → ts.length ≤ rW G st ts
  | [], _ => Nat.le_refl _
  | none :: r, h => by
    have := rW_len r (fun u hu => h u (List.mem_cons_of_mem _ hu))
    show r.length + 1 ≤ 1 + rW G st r
    omega
  | some (d, s, half, node, cx) :: r, h => by
    have := rW_len r (fun u hu => h u (List.mem_cons_of_mem _ hu))
    have o := h (some (d, s, half, node, cx)) List.mem_cons_self
    have := uW_pos d s half node (cxF (uW G st) 0 cx) o.2.1
    show r.length + 1 ≤ uW G st d s node (cxF (uW G st) 0 cx) + rW G st r
    omega
theorem nC_le : ∀ ts : List Uk, nC ts ≤ ts.length
  | [] => Nat.le_refl _
  | none :: r => by have := nC_le r; show nC r + 1 ≤ r.length + 1; omega
  | some _ :: r => by have := nC_le r; show nC r ≤ r.length + 1; omega
theorem emit_b1 {t x : List Int} {a b : Int} : emit t ([a, b] ++ 32 :: x ++ [41]) = emit (emit t [a, b]) x ++ [41] := by
  unfold emit
  by_cases ht : t = []
  · rw [if_pos ht, if_pos ht, if_neg (by simp)]
  · rw [if_neg ht, if_neg ht, if_neg (by simp)]
    simp [List.append_assoc]
theorem emit_b2 {t x y : List Int} {a b : Int} : emit t ([a, b] ++ 32 :: x ++ 32 :: y ++ [41]) = emit (emit (emit t [a, b]) x) y ++ [41] := by
  unfold emit
  by_cases ht : t = []
  · rw [if_pos ht, if_pos ht, if_neg (by simp), if_neg (by simp)]
  · rw [if_neg ht, if_neg ht, if_neg (by simp), if_neg (by simp)]
    simp [List.append_assoc]
/-- what a turn leaves -/
def Turn (h h' : Hp) (w : Int) (G : Gm) (st : St) (M : Int) (ts : List Uk) (txt : List Int) (ls : List (Int × Int)) (dm br : Nat) : Prop := ∃ (us : List Uk) (txt' : List Int) (ls' : List (Int × Int)) (dm' br' : Nat), FU w h h' ∧ USt h' w G st txt' ls' dm' br' (nC us) (us.map (rawU G)) ∧ (∀ u ∈ us, Uok G st M u) ∧ nC us ≤ dm' ∧ rT G st us txt' = rT G st ts txt ∧ rL G st us ls' = rL G st ts ls ∧ rB G st us br' = rB G st ts br ∧ rD G st us dm' = rD G st ts dm ∧ rW G st us + ls'.length ≤ rW G st ts + ls.length ∧ rC G st us + 1 ≤ rC G st ts ∧ rC G st us + br' ≤ rC G st ts + br
section
variable {h h' g : Hp} {w P o8 n : Int} {G : Gm} {row : Int → Int} {st : St} {M : Int}
theorem unfoldBranch_turn (E : UEnv h w P G o8 n row st) {txt : List Int} {ls : List (Int × Int)} {dm br : Nat} {r : List Uk} {d : Dv} {s half node : Int} {cx : Cx} (U : USt h w G st txt ls dm br (nC r) (r.map (rawU G))) (A : At G st 0 M d s 0 node) (s0 : 0 ≤ s) (s1 : s < (st.length : Int)) (n0 : 0 ≤ node) (n1 : node < nN G) (et : (sEnt st s).1 = tr G node) (su : SpU G node) (cxo : CxOK G st M s cx) (ok : ∀ u ∈ r, Uok G st M u) (hdm : nC r ≤ dm) (hW : rW G st (some (d, s, half, node, cx) :: r) + ls.length ≤ 576) (hB : br < 90000) (bc : kd G node = 0) :
    ∃ h', Wy_unfoldBranch w P s (off G node) h = some h' ∧ Turn h h' w G st M (some (d, s, half, node, cx) :: r) txt ls dm br := by
  have W := bx_W E.2.2.2.1
  have rl := rW_len r ok
  have nl := nC_le r
  have hlm : (r.map (rawU G)).length = r.length := List.length_map _
  have hw : uW G st d s node (cxF (uW G st) 0 cx) + rW G st r + ls.length ≤ 576 := hW
  have c := (ch_in W n0 n1 bc).1
  have ssn := (wf_sp W n0 n1).2.2.2 bc
  have sc1 := (wf_sp W c.2.1 c.2.2.1).1
  obtain ⟨g, x, Ug, Fg⟩ := unfoldBranch_ok E U s0 s1 et n0 n1 bc (by omega) (by omega) (by omega)
  refine ⟨g, x, ?_⟩
  cases d with
  | zero => exact absurd A.1 (by decide)
  | var _ => exact False.elim A
  | neg _ => exact absurd A.1 (by decide)
  | sub _ _ => exact absurd A.1 (by decide)
  | intMul t d' => exact absurd (A.2.1 (by decide)).1 (by decide)
  | natMul m d' =>
    obtain ⟨-, -, c2', A'⟩ := A
    rw [if_pos c2'] at Ug ssn
    have su1 : SpU G (c1 G node) := fun z => by rw [c.2.2.2]; exact su (by omega)
    refine ⟨some (d', s, 1, c1 G node, cx) :: none :: r, emit txt [40, 65 + lb G node], ls, max dm (nC r + 1), br + 1, Fg, Ug, ?_, ?_, ?_, rfl, ?_, ?_, ?_, ?_, ?_⟩
    · intro u hu
      rcases List.mem_cons.mp hu with e | hu
      · subst e
        exact ⟨Or.inr rfl, A', ⟨s0, s1⟩, ⟨c.2.1, c.2.2.1⟩, ⟨by rw [c.2.2.2]; exact et, su1⟩, cxo⟩
      · rcases List.mem_cons.mp hu with e | hu
        · subst e; trivial
        · exact ok u hu
    · show nC r + 1 ≤ _
      omega
    · show rT G st r (emit (emit txt [40, 65 + lb G node]) (uT G st d' s (c1 G node) (cxF (uT G st) [] cx)) ++ [41]) = rT G st r (emit txt ([40, 65 + lb G node] ++ 32 :: uT G st d' s (c1 G node) (cxF (uT G st) [] cx) ++ [41]))
      rw [emit_b1]
    · show rB G st r (br + 1 + uB G st d' s (c1 G node) (cxF (uB G st) 0 cx)) = rB G st r (br + (uB G st d' s (c1 G node) (cxF (uB G st) 0 cx) + 1))
      congr 1
      omega
    · show rD G st r (max (max dm (nC r + 1)) (nC r + 1 + uD G st d' s (c1 G node) (cxF (uD G st) 0 cx))) = rD G st r (max dm (nC r + (uD G st d' s (c1 G node) (cxF (uD G st) 0 cx) + 1)))
      congr 1
      omega
    · show uW G st d' s (c1 G node) (cxF (uW G st) 0 cx) + (1 + rW G st r) + ls.length ≤ uW G st d' s (c1 G node) (cxF (uW G st) 0 cx) + 1 + rW G st r + ls.length
      omega
    · show uC G st d' s (c1 G node) (cxF (uC G st) 0 cx) + (1 + rC G st r) + 1 ≤ uC G st d' s (c1 G node) (cxF (uC G st) 0 cx) + 2 + rC G st r
      omega
    · show uC G st d' s (c1 G node) (cxF (uC G st) 0 cx) + (1 + rC G st r) + (br + 1) ≤ uC G st d' s (c1 G node) (cxF (uC G st) 0 cx) + 2 + rC G st r + br
      omega
  | add x' y' =>
    obtain ⟨-, -, c2', Ax, Ay⟩ := A
    have c' := (ch_in W n0 n1 bc).2 c2'
    rw [if_neg c2'] at Ug ssn
    have sc2 := (wf_sp W c'.2.1 c'.2.2.1).1
    have sn1 := (wf_sp W n0 n1).1
    have su1 : SpU G (c1 G node) := fun z => by rw [c.2.2.2]; exact su (by omega)
    have su2 : SpU G (c2 G node) := fun z => by rw [c'.2.2.2]; exact su (by omega)
    refine ⟨some (x', s, 1, c1 G node, cx) :: some (y', s, 1, c2 G node, cx) :: none :: r, emit txt [40, 65 + lb G node], ls, max dm (nC r + 1), br + 1, Fg, Ug, ?_, ?_, ?_, ?_, ?_, ?_, ?_, ?_, ?_⟩
    · intro u hu
      rcases List.mem_cons.mp hu with e | hu
      · subst e
        exact ⟨Or.inr rfl, Ax, ⟨s0, s1⟩, ⟨c.2.1, c.2.2.1⟩, ⟨by rw [c.2.2.2]; exact et, su1⟩, cxo⟩
      · rcases List.mem_cons.mp hu with e | hu
        · subst e
          exact ⟨Or.inr rfl, Ay, ⟨s0, s1⟩, ⟨c'.2.1, c'.2.2.1⟩, ⟨by rw [c'.2.2.2]; exact et, su2⟩, cxo⟩
        · rcases List.mem_cons.mp hu with e | hu
          · subst e; trivial
          · exact ok u hu
    · show nC r + 1 ≤ _
      omega
    · show rT G st r (emit (emit (emit txt [40, 65 + lb G node]) (uT G st x' s (c1 G node) (cxF (uT G st) [] cx))) (uT G st y' s (c2 G node) (cxF (uT G st) [] cx)) ++ [41]) = rT G st r (emit txt ([40, 65 + lb G node] ++ 32 :: uT G st x' s (c1 G node) (cxF (uT G st) [] cx) ++ 32 :: uT G st y' s (c2 G node) (cxF (uT G st) [] cx) ++ [41]))
      rw [emit_b2]
    · show rL G st r (ls ++ uY G st x' s (c1 G node) (cxF (uY G st) [] cx) ++ uY G st y' s (c2 G node) (cxF (uY G st) [] cx)) = rL G st r (ls ++ (uY G st x' s (c1 G node) (cxF (uY G st) [] cx) ++ uY G st y' s (c2 G node) (cxF (uY G st) [] cx)))
      rw [List.append_assoc]
    · show rB G st r (br + 1 + uB G st x' s (c1 G node) (cxF (uB G st) 0 cx) + uB G st y' s (c2 G node) (cxF (uB G st) 0 cx)) = rB G st r (br + (uB G st x' s (c1 G node) (cxF (uB G st) 0 cx) + uB G st y' s (c2 G node) (cxF (uB G st) 0 cx) + 1))
      congr 1
      omega
    · show rD G st r (max (max (max dm (nC r + 1)) (nC r + 1 + uD G st x' s (c1 G node) (cxF (uD G st) 0 cx))) (nC r + 1 + uD G st y' s (c2 G node) (cxF (uD G st) 0 cx))) = rD G st r (max dm (nC r + (max (uD G st x' s (c1 G node) (cxF (uD G st) 0 cx)) (uD G st y' s (c2 G node) (cxF (uD G st) 0 cx)) + 1)))
      congr 1
      omega
    · show uW G st x' s (c1 G node) (cxF (uW G st) 0 cx) + (uW G st y' s (c2 G node) (cxF (uW G st) 0 cx) + (1 + rW G st r)) + ls.length ≤ uW G st x' s (c1 G node) (cxF (uW G st) 0 cx) + uW G st y' s (c2 G node) (cxF (uW G st) 0 cx) + 1 + rW G st r + ls.length
      omega
    · show uC G st x' s (c1 G node) (cxF (uC G st) 0 cx) + (uC G st y' s (c2 G node) (cxF (uC G st) 0 cx) + (1 + rC G st r)) + 1 ≤ uC G st x' s (c1 G node) (cxF (uC G st) 0 cx) + uC G st y' s (c2 G node) (cxF (uC G st) 0 cx) + 2 + rC G st r
      omega
    · show uC G st x' s (c1 G node) (cxF (uC G st) 0 cx) + (uC G st y' s (c2 G node) (cxF (uC G st) 0 cx) + (1 + rC G st r)) + (br + 1) ≤ uC G st x' s (c1 G node) (cxF (uC G st) 0 cx) + uC G st y' s (c2 G node) (cxF (uC G st) 0 cx) + 2 + rC G st r + br
      omega
end
