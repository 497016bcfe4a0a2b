/-! ===== the constructor of the class ===== -/
section ZGa
variable {X : zX}
theorem zstep {M : zM} {d d1 c1 s1 kc ks j : Nat} {fs : List Value} {L Y : zW} {o : zC} {As : List Value} {K : Nat → Nat → zW → Prop} (ev : zEv X d1 c1 s1 M (.ref (zO 10 fs :: L).length :: As) (zO 10 fs :: L ++ [o]) (fun v w1 => v = none ∧ w1 = zO 10 fs :: L ++ Y)) (hd : d1 < d) (hc : c1 ≤ kc) (hs : s1 ≤ ks) (hj : j < fs.length) (k : K (kc - c1) (ks - s1) (zO 10 (fs.set j (.ref (zO 10 fs :: L).length)) :: (L ++ Y))) : zCallC X d kc ks M (.ref (zO 10 fs :: L).length :: As) (zO 10 fs :: L ++ [o]) (fun k2 s3 w1 => ∃ w4, zsF w1 0 10 j (.ref (zO 10 fs :: L).length) = some w4 ∧ K k2 s3 w4) := by
  refine ⟨d1, c1, s1, _, hd, hc, hs, ev, ?_⟩
  rintro v w1 ⟨rfl, rfl⟩
  exact ⟨rfl, _, zsF_hd (w := []) hj, k⟩
def zG0 : zW := zR 3 (zfk 2 3 3) :: zOs 2 3
def zG1 : zW := zG0 ++ zOrd 17
def zG2 : zW := zG1 ++ zPst 22
def zG3 : zW := zG2 ++ [zO 0 [.ref 76, .int 0], zI 400 z0_]
def zG4 : zW := zG3 ++ [zO 0 [.ref 78, .int 0], zI 160 z0_]
def zG5 : zW := zG4 ++ [zO 7 [.ref 75, .int 0, .int 0, .int 0, .int 0, .int (-1)]]
def zG6 : zW := zG5 ++ [zO 1 [.ref 81, .ref 82, .ref 83], zI 8 z0_, zI 8 z0_, zI 8 z0_]
def zG7 : zW := zG6 ++ [zO 4 [.ref 85, .ref 86], zI 256 z0_, zI 256 z0_]
def zG8 : zW := zG7 ++ [zO 2 [.ref 88], zI 2048 z0_]
def zG9 : zW := zG8 ++ [zO 9 [.ref 90, .ref 91, .ref 92, .ref 93, .ref 94, .ref 95, .int 0], zI 56 z0_, zI 56 z0_, zI 56 z0_, zI 57 z0_, zI 32 z0_, zI 448 z0_]
def zG10 : zW := zG9 ++ [zO 3 [.ref 97], zI 8 z0_]
theorem gl0 (a : zC) : (a :: zG0).length = 17 := rfl
theorem gl1 (a : zC) : (a :: zG1).length = 22 := rfl
theorem gl2 (a : zC) : (a :: zG2).length = 75 := rfl
theorem gl3 (a : zC) : (a :: zG3).length = 77 := rfl
theorem gl4 (a : zC) : (a :: zG4).length = 79 := rfl
theorem gl5 (a : zC) : (a :: zG5).length = 80 := rfl
theorem gl6 (a : zC) : (a :: zG6).length = 84 := rfl
theorem gl7 (a : zC) : (a :: zG7).length = 87 := rfl
theorem gl8 (a : zC) : (a :: zG8).length = 89 := rfl
theorem gl9 (a : zC) : (a :: zG9).length = 96 := rfl
theorem gl10 (a : zC) : (a :: zG10).length = 98 := rfl
end ZGa
