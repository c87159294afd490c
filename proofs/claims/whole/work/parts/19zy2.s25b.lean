theorem and255 (x : Int32) : ¬ (x &&& 255) = -1 := by
  intro h
  have h2 := congrArg (fun y : Int32 => y.toBitVec.getLsbD 31) h
  have e1 : (x &&& 255).toBitVec.getLsbD 31 = false := by
    rw [Int32.toBitVec_and, BitVec.getLsbD_and]
    rw [show (255 : Int32).toBitVec.getLsbD 31 = false by decide, Bool.and_false]
  have e2 : (-1 : Int32).toBitVec.getLsbD 31 = true := by decide
  simp only [e1, e2] at h2
  exact absurd h2 (by decide)
