/-! ===== the law, from its entry ===== -/
def ks0 : List Ky := [(0, 0, 0), (0, 0, 2), (0, 0, 3), (0, 0, 4)]
def ks1 : List Ky := [(1, 0, 0), (1, 0, 2), (1, 0, 3), (1, 0, 4), (1, 0, 5), (1, 0, 6), (1, 0, 7)]
def ks2 : List Ky := [(2, 0, 0), (2, 0, 2)]
def ks3 (p : Int) : List Ky := [(3, p, 0), (3, p, 2), (3, p, 3), (3, p, 5), (3, p, 6), (3, p, 8), (3, p, 9), (3, p, 10), (3, p, 11), (3, p, 12), (3, p, 13), (3, p, 14), (3, p, 15), (3, p, 16)]
def ks4 : List Ky := [(4, 0, 0), (4, 0, 5), (4, 0, 6)]
def ks6 : List Ky := [(6, 0, 0), (6, 0, 2), (6, 0, 3), (6, 0, 4), (6, 0, 5), (6, 0, 7), (6, 0, 9), (6, 0, 10), (6, 0, 11), (6, 0, 12), (6, 0, 13), (6, 0, 14), (6, 0, 15), (6, 0, 16), (6, 0, 17), (6, 0, 18), (6, 0, 20), (6, 0, 21), (6, 0, 22), (6, 0, 23), (6, 0, 24), (6, 0, 25), (6, 0, 26), (6, 0, 27), (6, 0, 34), (6, 0, 35), (6, 0, 36), (6, 0, 37), (6, 0, 38), (6, 0, 39), (6, 0, 40), (6, 0, 41), (6, 0, 42)]
def keysW : List Ky := [(5, 0, 0)] ++ ks0 ++ ks2 ++ [(5, 0, 3)] ++ ks1 ++ ks4 ++ [(5, 0, 7)] ++ [(5, 0, 8)] ++ [(5, 0, 9)] ++ ks3 0 ++ ks3 1 ++ ks3 2 ++ ks3 3 ++ ks6
theorem keys_sub : ∀ q ∈ keys, q ∈ keysW := by decide +kernel
def adf (qS qM : Nat) (ad : Ky → Nat) (a6 : Nat → Nat) (q : Ky) : Nat := match q with
  | (6, _, k) => adh qM a6 k
  | (5, _, 0) => qS
  | q => ad q
theorem cw0 {qS qM : Nat} {ad : Ky → Nat} {a6 : Nat → Nat} {tc : Tc} : ks0.map (fun q => (adf qS qM ad a6 q, cel (adf qS qM ad a6) tc sg0 q)) = bX0 tc (ad (0, 0, 0)) (fun k => ad (0, 0, k + 1)) := rfl
theorem cw1 {qS qM : Nat} {ad : Ky → Nat} {a6 : Nat → Nat} {tc : Tc} : ks1.map (fun q => (adf qS qM ad a6 q, cel (adf qS qM ad a6) tc sg0 q)) = bX1 tc (ad (1, 0, 0)) (fun k => ad (1, 0, k + 1)) := rfl
theorem cw2 {qS qM : Nat} {ad : Ky → Nat} {a6 : Nat → Nat} {tc : Tc} : ks2.map (fun q => (adf qS qM ad a6 q, cel (adf qS qM ad a6) tc sg0 q)) = bX2 tc (ad (2, 0, 0)) (fun k => ad (2, 0, k + 1)) := rfl
theorem cw3_0 {qS qM : Nat} {ad : Ky → Nat} {a6 : Nat → Nat} {tc : Tc} : (ks3 0).map (fun q => (adf qS qM ad a6 q, cel (adf qS qM ad a6) tc sg0 q)) = bX3 tc (ad (3, 0, 0)) (fun k => ad (3, 0, k + 1)) := rfl
theorem cw3_1 {qS qM : Nat} {ad : Ky → Nat} {a6 : Nat → Nat} {tc : Tc} : (ks3 1).map (fun q => (adf qS qM ad a6 q, cel (adf qS qM ad a6) tc sg0 q)) = bX3 tc (ad (3, 1, 0)) (fun k => ad (3, 1, k + 1)) := rfl
theorem cw3_2 {qS qM : Nat} {ad : Ky → Nat} {a6 : Nat → Nat} {tc : Tc} : (ks3 2).map (fun q => (adf qS qM ad a6 q, cel (adf qS qM ad a6) tc sg0 q)) = bX3 tc (ad (3, 2, 0)) (fun k => ad (3, 2, k + 1)) := rfl
theorem cw3_3 {qS qM : Nat} {ad : Ky → Nat} {a6 : Nat → Nat} {tc : Tc} : (ks3 3).map (fun q => (adf qS qM ad a6 q, cel (adf qS qM ad a6) tc sg0 q)) = bX3 tc (ad (3, 3, 0)) (fun k => ad (3, 3, k + 1)) := rfl
theorem cw4 {qS qM : Nat} {ad : Ky → Nat} {a6 : Nat → Nat} {tc : Tc} : ks4.map (fun q => (adf qS qM ad a6 q, cel (adf qS qM ad a6) tc sg0 q)) = bX4 tc (ad (4, 0, 0)) (fun k => ad (4, 0, k + 1)) := rfl
theorem cw6 {qS qM : Nat} {ad : Ky → Nat} {a6 : Nat → Nat} {tc : Tc} : ks6.map (fun q => (adf qS qM ad a6 q, cel (adf qS qM ad a6) tc sg0 q)) = bX6 tc qM a6 := rfl
theorem cw_all {qS qM : Nat} {ad : Ky → Nat} {a6 : Nat → Nat} {tc : Tc} : keysW.map (fun q => (adf qS qM ad a6 q, cel (adf qS qM ad a6) tc sg0 q)) = bX5 tc qS ad ++ bX6 tc qM a6 := by
  unfold keysW bX5
  simp only [List.map_append, cw0, cw1, cw2, cw3_0, cw3_1, cw3_2, cw3_3, cw4, cw6]
  rfl
