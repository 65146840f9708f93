/-! names for states and numbers in the functions -/
def lets (s : St) (k : St → Rs) : Rs := k s
def letv (x : Int) (k : Int → Rs) : Rs := k x
theorem lets_eq (s : St) (k : St → Rs) : lets s k = k s := rfl
theorem letv_eq (x : Int) (k : Int → Rs) : letv x k = k x := rfl
section VLETS
variable {QQ : QT} {G : Gx} {l : Launch} {M : MI} {pc : Nat} {lv : List (Nat × PV)} {st : List PV} {s : St}
theorem V_lets {k : St → Rs} (K : ∀ s2, VQ QQ G l M pc lv st s2 (k s2)) : VQ QQ G l M pc lv st s (lets s k) := K s
theorem V_letv {t : Nat} {x : Int} {k : Int → Rs} (K : ∀ y, VQ QQ G l M pc lv ((t, y) :: st) s (k y)) : VQ QQ G l M pc lv ((t, x) :: st) s (letv x k) := K x
end VLETS
