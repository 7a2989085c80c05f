/-! a grammar as numbers, and in how many ways a node is over a span -/
abbrev Gm : Type := Int → Int → Int
abbrev kd (G : Gm) (n : Int) : Int := G 0 n
abbrev lb (G : Gm) (n : Int) : Int := G 1 n
abbrev mk (G : Gm) (n : Int) : Int := G 2 n
abbrev c1 (G : Gm) (n : Int) : Int := G 3 n
abbrev c2 (G : Gm) (n : Int) : Int := G 4 n
abbrev up (G : Gm) (n : Int) : Int := G 5 n
abbrev nd (G : Gm) (n : Int) : Int := G 6 n
abbrev sp (G : Gm) (n : Int) : Int := G 7 n
abbrev tr (G : Gm) (n : Int) : Int := G 8 n
abbrev ft (G : Gm) (t : Int) : Int := G 9 t
abbrev nT (G : Gm) : Int := G 10 0
abbrev nN (G : Gm) : Int := G 10 1
/-- what every grammar keeps that was read -/
def WF (G : Gm) : Prop :=
  (0 ≤ nT G ∧ nT G ≤ 8) ∧ (0 ≤ nN G ∧ nN G ≤ 40) ∧ (ft G 0 = 0 ∧ ft G (nT G) = nN G) ∧
  (∀ t, 0 ≤ t → t < nT G → ft G t < ft G (t + 1) ∧ ft G (t + 1) ≤ ft G t + 12) ∧
  (∀ n, 0 ≤ n → n < nN G → 0 ≤ tr G n ∧ tr G n < nT G ∧ ft G (tr G n) ≤ n ∧ n < ft G (tr G n + 1)) ∧
  (∀ n t, 0 ≤ t → t < nT G → ft G t ≤ n → n < ft G (t + 1) → tr G n = t) ∧
  (∀ n, 0 ≤ n → n < nN G → 0 ≤ kd G n ∧ kd G n ≤ 4) ∧
  (∀ n, 0 ≤ n → n < nN G → kd G n = 0 → n < c1 G n ∧ c1 G n < ft G (tr G n + 1) ∧ (c2 G n = -1 ∨ (c1 G n < c2 G n ∧ c2 G n < ft G (tr G n + 1)))) ∧
  (∀ n, 0 ≤ n → n < nN G → kd G n ≠ 0 → c1 G n = -1 ∧ c2 G n = -1 ∧ mk G n = 0) ∧
  (∀ n, 0 ≤ n → n < nN G → (kd G n ≠ 2 → 0 ≤ lb G n ∧ lb G n < 26) ∧ (kd G n = 2 → lb G n = -1)) ∧
  (∀ n, 0 ≤ n → n < nN G → 0 ≤ nd G n ∧ (kd G n = 1 → nd G n = 1) ∧ (2 ≤ kd G n → nd G n = 0) ∧ (kd G n = 0 → nd G n = nd G (c1 G n) + (if c2 G n = -1 then 0 else nd G (c2 G n))) ∧ nd G n ≤ nd G (ft G (tr G n))) ∧
  (∀ n, 0 ≤ n → n < nN G → (sp G n = 0 ∨ sp G n = 1) ∧ (kd G n = 3 → sp G n = 1) ∧ (kd G n ≠ 3 → kd G n ≠ 0 → sp G n = 0) ∧ (kd G n = 0 → sp G n = sp G (c1 G n) + (if c2 G n = -1 then 0 else sp G (c2 G n)))) ∧
  (∀ t, 0 ≤ t → t < nT G → kd G (ft G t) = 0 ∧ (sp G (ft G t) = 1 → 1 ≤ nd G (ft G t))) ∧
  (∀ n, 0 ≤ n → n < nN G → kd G n = 4 → 1 ≤ nd G (ft G (tr G n))) ∧
  (∀ n, 0 ≤ n → n < nN G → 0 ≤ mk G n ∧ mk G n ≤ 2)
/-- sums over lo .. hi -/
def sN (f : Int → Nat) (lo : Int) : Nat → Nat
  | 0 => 0
  | k + 1 => sN f lo k + f (lo + k)
def sI (f : Int → Nat) (lo hi : Int) : Nat := sN f lo (hi + 1 - lo).toNat
theorem sN_congr {f g : Int → Nat} {lo : Int} : ∀ (n : Nat), (∀ k : Nat, k < n → f (lo + k) = g (lo + k)) → sN f lo n = sN g lo n
  | 0, _ => rfl
  | n + 1, h => by
    show sN f lo n + f (lo + n) = sN g lo n + g (lo + n)
    rw [sN_congr n (fun k hk => h k (by omega)), h n (by omega)]
theorem sI_congr {f g : Int → Nat} {lo hi : Int} (h : ∀ x, lo ≤ x → x ≤ hi → f x = g x) : sI f lo hi = sI g lo hi :=
  sN_congr _ (fun k hk => h _ (by omega) (by omega))
abbrev WR : Type := Int → Int → Int → Int → Int → Int → Nat
def gapL (p q : Int) : Int := if p = -1 then 0 else q - p
def cov (i j p q : Int) : Int := j - i - gapL p q
/-- a tree that may be put: a guest (s = 1) or a host (s = 0), of a label, that isn't out -/
def goG (G : Gm) (ou : Int → Bool) (t l s : Int) : Prop := sp G (ft G t) = s ∧ lb G (ft G t) = l ∧ ou t = false
def goB (G : Gm) (ou : Int → Bool) (t l s : Int) : Bool := decide (sp G (ft G t) = s) && decide (lb G (ft G t) = l) && !(ou t)
def wAround (G : Gm) (R : WR) (node t a b i j p q : Int) : Nat := if nd G (ft G t) ≤ cov i j a b ∧ nd G node ≤ cov a b p q then R 0 node a b p q * R 1 (ft G t) i j a b else 0
def wAbove (G : Gm) (ou : Int → Bool) (R : WR) (node i j p q : Int) : Nat :=
  (if mk G node = 2 then 0 else R 0 node i j p q) +
  (if mk G node = 1 then 0 else sI (fun t => if goB G ou t (lb G node) 1 then sI (fun a => sI (fun b => wAround G R node t a b i j p q) (if p = -1 then a else q) j) i (if p = -1 then j else p) else 0) 0 (nT G - 1))
def gp (s p : Int) : Int := if s = 1 then p else -1
def canSplit (G : Gm) (node i m j p q : Int) : Prop :=
  ¬ (sp G (c1 G node) = 1 ∧ m < q) ∧ ¬ (sp G (c2 G node) = 1 ∧ p < m) ∧ nd G (c1 G node) ≤ cov i m (gp (sp G (c1 G node)) p) (gp (sp G (c1 G node)) q) ∧ nd G (c2 G node) ≤ cov m j (gp (sp G (c2 G node)) p) (gp (sp G (c2 G node)) q)
def wSplit (G : Gm) (R : WR) (node i m j p q : Int) : Nat :=
  if ¬ (sp G (c1 G node) = 1 ∧ m < q) ∧ ¬ (sp G (c2 G node) = 1 ∧ p < m) ∧ nd G (c1 G node) ≤ cov i m (gp (sp G (c1 G node)) p) (gp (sp G (c1 G node)) q) ∧ nd G (c2 G node) ≤ cov m j (gp (sp G (c2 G node)) p) (gp (sp G (c2 G node)) q)
  then R 1 (c1 G node) i m (gp (sp G (c1 G node)) p) (gp (sp G (c1 G node)) q) * R 1 (c2 G node) m j (gp (sp G (c2 G node)) p) (gp (sp G (c2 G node)) q) else 0
def wHosts (G : Gm) (ou : Int → Bool) (R : WR) (l i j : Int) : Nat := sI (fun t => if goB G ou t l 0 then R 1 (ft G t) i j (-1) (-1) else 0) 0 (nT G - 1)
def wBelow (G : Gm) (ou : Int → Bool) (row : Int → Int) (R : WR) (node i j p q : Int) : Nat :=
  if kd G node = 1 then (if j = i + 1 ∧ row i = lb G node then 1 else 0)
  else if kd G node = 2 then (if i = j then 1 else 0)
  else if kd G node = 3 then (if p = i ∧ q = j then 1 else 0)
  else if kd G node = 4 then wHosts G ou R (lb G node) i j
  else if c2 G node = -1 then R 1 (c1 G node) i j p q
  else sI (fun m => wSplit G R node i m j p q) i j
def wStep (G : Gm) (ou : Int → Bool) (row : Int → Int) (R : WR) : WR := fun half node i j p q =>
  if cov i j p q < nd G node then 0 else if half = 1 ∧ kd G node = 0 then wAbove G ou R node i j p q else wBelow G ou row R node i j p q
def wN (G : Gm) (ou : Int → Bool) (row : Int → Int) : Nat → WR
  | 0 => fun _ _ _ _ _ _ => 0
  | m + 1 => wStep G ou row (wN G ou row m)
/-- an item: node, half, span and gap as they can be -/
def itm (G : Gm) (half node i j p q : Int) : Prop := (half = 0 ∨ half = 1) ∧ 0 ≤ node ∧ node < nN G ∧ 0 ≤ i ∧ i ≤ j ∧ j ≤ 8 ∧ ((sp G node = 1 ∧ i ≤ p ∧ p ≤ q ∧ q ≤ j) ∨ (sp G node = 0 ∧ p = -1 ∧ q = -1))
def turn (G : Gm) (node : Int) : Int := if nd G (ft G (tr G node)) = 0 then 1 else if nd G node = nd G (ft G (tr G node)) then 0 else 2
def mu (G : Gm) (half node i j p q : Int) : Int := 100 * cov i j p q + 30 * turn G node + 2 * (12 - (node - ft G (tr G node))) + half
