theorem okL_0 : (cL_0).all (xcE xB xcs xtl xT0 xkd "PatchChains" yI0 xol m_law) = true := by decide +kernel
theorem okL_1 : (cL_1).all (xcE xB xcs xtl xT0 xkd "PatchChains" yI0 xol m_law) = true := by decide +kernel
theorem okL_2 : (cL_2).all (xcE xB xcs xtl xT0 xkd "PatchChains" yI0 xol m_law) = true := by decide +kernel
theorem okL_3 : (cL_3).all (xcE xB xcs xtl xT0 xkd "PatchChains" yI0 xol m_law) = true := by decide +kernel
