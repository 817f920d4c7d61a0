/-! the seam, from the top -/
def SM (dd : Int → Int → Int) (f top bo : Int) : Nat → Int
  | 0 => chs (LC dd f (bo - top).toNat top) f 7
  | k + 1 => chs (LC dd f (bo - (top + (k + 1))).toNat (top + (k + 1))) (mx f (SM dd f top bo k - 1)) (mi7 (SM dd f top bo k + 1))
theorem SM_r {dd : Int → Int → Int} {f top bo : Int} (hf : 1 ≤ f ∧ f ≤ 5) : ∀ k, f ≤ SM dd f top bo k ∧ SM dd f top bo k ≤ 7 := by
  intro k
  induction k with
  | zero => exact chs_r _ (by omega)
  | succ k ih =>
    have h := mx_r hf (c := SM dd f top bo k) ih
    have := chs_r (LC dd f (bo - (top + (k + 1))).toNat (top + (k + 1))) (lo := mx f (SM dd f top bo k - 1)) (hi := mi7 (SM dd f top bo k + 1)) (by omega)
    show f ≤ chs (LC dd f (bo - (top + (k + 1))).toNat (top + (k + 1))) (mx f (SM dd f top bo k - 1)) (mi7 (SM dd f top bo k + 1)) ∧ chs (LC dd f (bo - (top + (k + 1))).toNat (top + (k + 1))) (mx f (SM dd f top bo k - 1)) (mi7 (SM dd f top bo k + 1)) ≤ 7
    omega
/-- what the first k rows of the seam cost -/
def SS (dd : Int → Int → Int) (f top bo : Int) : Nat → Int
  | 0 => 0
  | k + 1 => SS dd f top bo k + dd (top + k) (SM dd f top bo k)
