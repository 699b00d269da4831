section STRS
variable {l : Launch} {g : xG} {h : Nat} {M : xM} {pc : Nat} {L : List (Option Value)} {S : List Value} {s s' : xS} {R : Option Value × xS}
theorem r_strlen {index i : Nat} (d : xd M pc (.invokevirtual index) 3) (hi : i < 10) (hc : xCV M.2.2.2 index yJ0_length_8abf5 M_J0_length_8abf5 0) (hh : 4 ≤ h) (hS0 : (S.map fun v => v.category).sum ≤ 8) (k : Rx l g h M (pc + 3) L (.int (f_strlen i) :: S) s R) : Rx l g h M pc L (.ref (xk g i) :: S) s R := sorry
theorem r_strchr {index i : Nat} {x r : Int32} (d : xd M pc (.invokevirtual index) 3) (hi : i < 10) (hc : xCV M.2.2.2 index yJ0_charAt_5068e M_J0_charAt_5068e 1) (hh : 4 ≤ h) (hS0 : (S.map fun v => v.category).sum ≤ 8) (e : f_strchr i x = some r) (k : Rx l g h M (pc + 3) L (.int r :: S) s R) : Rx l g h M pc L (.int x :: .ref (xk g i) :: S) s R := sorry
end STRS
