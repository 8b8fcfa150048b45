/-- array classes at the law's entry -/
theorem ws_arr {args : Array Value} {s : State} {ty : FieldType} (hn : ∀ C, ty ≠ .object C) (h : (Cond.arrayClass ty).before args s = true) : ∃ cA : ClassId, ArrOfT s cA ty ∧ va_RA s cA ty := by
  obtain ⟨cA, kA, comp, h1, h2, h3⟩ := Cond.arrayClass_spec h
  refine ⟨cA, fun n z => ⟨fun k h => (by cases h), kA, h2, comp, h3⟩, ?_⟩
  cases ty with
  | object C => exact absurd rfl (hn C)
  | _ => exact h1
theorem ws_arr2 {s : State} (h : va_AOA .long s) : ∃ cA : ClassId, ArrOfT s cA (.array .long) ∧ va_RA s cA (.array .long) := by
  obtain ⟨comp, c, k, h1, h2, h3, h4, h5⟩ := arrayOverA_spec h
  exact ⟨c, fun n z => ⟨fun k h => (by cases h), k, h3, comp, h4⟩, h5⟩
theorem plI_0 : plI (1, 0, fun _ => 0, fun _ => 0, fun _ => 0) := by
  refine ⟨by show (1 : Int) ≤ 1 ∧ (1 : Int) ≤ 4; omega, by show (0 : Int) ≤ 0 ∧ (0 : Int) ≤ 5; omega, fun i => by show (0 : Int) ≤ 0 ∧ (0 : Int) ≤ 200; omega, fun i => by show (0 : Int) ≤ 0 ∧ (0 : Int) ≤ 6; omega, fun i => by show (0 : Int) ≤ 0 ∧ (0 : Int) ≤ 200; omega, fun b c0 c1 => ?_, fun b c0 c1 => ?_⟩
  · have c1' : b < 0 := c1; omega
  · have c1' : b < 0 := c1; omega
theorem rel_init : rel (1, 0, fun _ => 0, fun _ => 0, fun _ => 0) (zup (fun _ => 0) 0 1) := by
  have z0 : zup (fun _ => 0) 0 1 0 = 1 := zup_eq _ _ _
  have z : ∀ i : Int, i ≠ 0 → zup (fun _ => 0) 0 1 i = 0 := fun i hi => zup_ne hi
  refine ⟨plI_0, ⟨⟨by rw [z0]; omega, by rw [z 1 (by omega)]; omega, fun i i0 i1 => ?_⟩, fun d d0 d1 => by rw [z _ (by omega)]; omega, fun b c0 c1 => ?_, fun b c0 c1 => ?_⟩, z0, z 1 (by omega), fun j j0 j1 => ?_, fun b w c0 c1 w0 w1 => ?_⟩
  · by_cases e : i = 0
    · rw [e, z0]; omega
    · rw [z i e]; omega
  · rw [z 1 (by omega)] at c1; omega
  · rw [z 1 (by omega)] at c1; omega
  · rw [z _ (by omega), z _ (by omega)]; exact ⟨rfl, rfl⟩
  · have c1' : b < 0 := c1; omega
