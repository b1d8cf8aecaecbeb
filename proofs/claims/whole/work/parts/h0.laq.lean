def V_Lq : List Cond := K_Mq ++ (K_Vq ++ V_La)
theorem u_Lq_La : ∀ w ∈ V_La, w ∈ V_Lq := fun _ h => List.mem_append_right _ (List.mem_append_right _ h)
theorem u_Lq_Mo : ∀ w ∈ V_Mo, w ∈ V_Lq := fun w h => u_Lq_La w (u_La_Mo w h)
theorem u_Lq_Mq : ∀ w ∈ V_Mq, w ∈ V_Lq := fun w h => (List.mem_append.mp h).elim (fun z => List.mem_append_left _ z) (fun z => u_Lq_Mo w z)
theorem u_Lq_Vq : ∀ w ∈ V_Vq, w ∈ V_Lq := fun w h => (List.mem_append.mp h).elim (fun z => List.mem_append_right _ (List.mem_append_left _ z)) (fun z => u_Lq_La w (u_La_Vt w z))
theorem u_Lq_Vt : ∀ w ∈ V_Vt, w ∈ V_Lq := fun w h => u_Lq_La w (u_La_Vt w h)
theorem good_Lq : GoodIn V_Lq V_Lq := fun w h => by
  refine ⟨h, ?_⟩
  rcases List.mem_append.mp h with q | q
  · exact good_of_word (gk_Mq w q)
  · rcases List.mem_append.mp q with q | q
    · exact good_of_word (gk_Vq w q)
    · exact (good_La w q).2
/-- exceptions that are none of another kind -/
def lz_miss (E : (Nat → Prop) → State → Prop) : Prop := ∀ (A : Nat → Prop) (U : State), E A U → ∀ a b : String, (a, b) ∈ ([("java/lang/IllegalArgumentException", "java/lang/IllegalStateException"), ("java/lang/IllegalArgumentException", "java/lang/IndexOutOfBoundsException"), ("java/lang/IllegalArgumentException", "java/lang/UnsupportedOperationException"), ("java/lang/IllegalStateException", "java/lang/IllegalArgumentException"), ("java/lang/IllegalStateException", "java/lang/IndexOutOfBoundsException"), ("java/lang/IllegalStateException", "java/lang/UnsupportedOperationException"), ("java/lang/IndexOutOfBoundsException", "java/lang/IllegalArgumentException"), ("java/lang/IndexOutOfBoundsException", "java/lang/IllegalStateException"), ("java/lang/IndexOutOfBoundsException", "java/lang/UnsupportedOperationException"), ("java/lang/UnsupportedOperationException", "java/lang/IllegalArgumentException"), ("java/lang/UnsupportedOperationException", "java/lang/IllegalStateException"), ("java/lang/UnsupportedOperationException", "java/lang/IndexOutOfBoundsException")] : List (String × String)) → ∀ k j : ClassId, U.vm.findClass a = some k → U.vm.findClass b = some j → U.vm.assignable k j = false
