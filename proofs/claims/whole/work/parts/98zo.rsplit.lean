/-! ===== the reference: new VARS in place of what blocked ===== -/
section RSPLIT
variable {M : Mem}
theorem arr_1319 : arr 1319 0 300 := arr_of _ _ _ (by decide)
theorem vc_new {fr i : Nat} (h : 1414 ≤ fr ∧ fr + i < 65536) : vc ((fr : Int) + (i : Int)) ∧ cm ((fr : Int) + (i : Int)) = 64 * ((fr : Int) + 98586 + (i : Int)) := by
  have hk : kd ((fr : Int) + (i : Int)) = 0 := by unfold kd; omega
  have ha : ar ((fr : Int) + (i : Int)) = 0 := by unfold ar; omega
  refine ⟨vc_var (by omega), ?_⟩
  unfold cm nmo
  rw [hk, ha, if_pos rfl, if_neg (by omega)]
  omega
end RSPLIT
