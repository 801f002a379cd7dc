/-! THE FOUR HARD CALLS, told -/
theorem zhard : zHard := by
  intro A hA
  refine ⟨s_thread A, s_errands A, s_cameIn A, s_safe A, fun C hC => ⟨fun k x => c_thread hA hC, fun k p i _ => c_errands hA hC, c_cameIn hA hC, fun k w => c_safe hA hC⟩, fun C hC => ⟨fun k x => m_thread hA hC, fun k p i _ => m_errands hA hC, m_cameIn hA hC, fun k w => m_safe hA hC, ?_⟩⟩
  exact m_digest (ft := fun k x => s_thread A (k : Int) x) (fe := fun k => s_errands A (k : Int) 21 (-1)) (fc := s_cameIn A) hA hC
    (fun k x C hk hx h => m_threadOf hA hk h (by omega)) (fun k C hk h => m_errandsOf hA h hk (by decide) (by decide)) (fun C h => m_cameInNow hA h)
theorem zgoal : zGoal := zgoal_of zhard
