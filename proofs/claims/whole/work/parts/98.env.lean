/-! ===== what stands at the law's entry ===== -/
def ztm (i : Nat) : Term := ([Term.string "OrderGauge$Reader" 38, Term.string "OrderGauge$Reader" 83, Term.string "OrderGauge$Order" 113, Term.string "OrderGauge$Order" 134, Term.string "OrderGaugeModel" 377, Term.string "OrderGaugeModel" 379, Term.string "OrderGaugeModel" 381, Term.string "OrderGaugeModel" 383] : List Term).getD i (Term.string "OrderGauge$Reader" 38)
theorem w_str {args : Array Value} {s : State} {A : Nat → Prop} (hgv : (Jvm.Cond.and given_1 narrow_1).before args s = true) (hA : ∀ a : Nat, a < s.heap.size → ¬ A a) : ∃ adK adV : Nat → Nat, vk_S 8 zsLen zsByt adK adV A s s.heap ∧ ∀ i : Nat, i < 8 → (ztm i).eval args s none [] s = some (.ref (adK i)) := by
  have hs := flat_of_before _ hgv
  refine vk_Sof (N := 8) (tm := ztm) (len := zsLen) (byt := zsByt) (by decide) (fun i hi => hs _ ?_) (fun i hi => hs _ ?_) (fun i hi => hs _ ?_) (fun i hi => hs _ ?_) (fun i hi j hj => hs _ ?_) (fun i j hi hj hij => ?_) hA
  · revert i
    decide +kernel
  · revert i
    decide +kernel
  · revert i
    decide +kernel
  · revert i
    decide +kernel
  · have key : ∀ i, i < 8 → ∀ j, j < zsLen.getD i 0 → Cond.eq (.elem (.field (ztm i) "java/lang/String" "value" "[B") (.int (Int32.ofNat j))) (.int ((zsByt.getD i []).getD j 0)) ∈ flatC (Jvm.Cond.and given_1 narrow_1) := by decide +kernel
    exact key i hi j hj
  · have key : ∀ i, i < 8 → ∀ j, j < 8 → i ≠ j → (Cond.not (Cond.eq (ztm i) (ztm j))) ∈ flatC (Jvm.Cond.and given_1 narrow_1) ∨ (Cond.not (Cond.eq (ztm j) (ztm i))) ∈ flatC (Jvm.Cond.and given_1 narrow_1) := by decide +kernel
    rcases key i hi j hj hij with h | h
    · exact Or.inl (hs _ h)
    · exact Or.inr (hs _ h)
